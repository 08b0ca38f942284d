-- deps: 51.rows
/-! ===== the class: a piece of an array moved within it ===== -/
def o_acpy : Op := fun lv st f bc bs K _ _ _ => match st with
  | .int n :: .int dp :: .ref a :: .int sp :: .ref b :: r => b = a ∧ r.length ≤ 4 ∧ hAI f a 0 fun N arr => ∃ s' d' n' : Nat, sp = nI s' ∧ dp = nI d' ∧ n = nI n' ∧ s' + n' ≤ N ∧ d' + n' ≤ N ∧ N < 2147483648 ∧ Sto (aup f a (.inl (0, N, .inl (va_cpy arr arr s' d' n')))) (fun f1 => K lv r f1 bc bs) (0 : Nat)
  | _ => False
theorem e_acpy (lv : LV) (n dp sp : Int32) (a b : Nat) (r : List Value) (f : AH) (bc bs : Nat) (K : Kx) (B : Bx) (Q : Option Value → AH → Prop) (X : String → AH → Prop) : o_acpy lv (.int n :: .int dp :: .ref a :: .int sp :: .ref b :: r) f bc bs K B Q X = (b = a ∧ r.length ≤ 4 ∧ hAI f a 0 fun N arr => ∃ s' d' n' : Nat, sp = nI s' ∧ dp = nI d' ∧ n = nI n' ∧ s' + n' ≤ N ∧ d' + n' ≤ N ∧ N < 2147483648 ∧ Sto (aup f a (.inl (0, N, .inl (va_cpy arr arr s' d' n')))) (fun f1 => K lv r f1 bc bs) (0 : Nat)) := (rfl)
theorem ok_acpy {M : MI} {pc i : Nat} (h1 : Cond.methodLink M.1 i arraycopyName ∈ lw_tbl) (h2 : Cond.native arraycopyName ∈ lw_tbl) (h3 : Cond.static arraycopyName ∈ lw_tbl) (h4 : Cond.initialized "java/lang/System" ∈ lw_tbl) (d : decode M.2.1 pc = .ok (.invokestatic i, 3)) : OpOk M pc 3 o_acpy := by
  intro C Q X hC K hK B' hB lv st f bc bs h
  obtain ⟨⟨g, MC, MS⟩, ⟨p, l, e, R⟩, ⟨s, m, args, below, meth, c⟩, Qf⟩ := C
  obtain ⟨hx, hb, hml, hown, hw, hlk, hE, hst, hR, hex, hin, hrt, hQ, hgl⟩ := hC
  intro ls H locs cells slots hl hrep hS hc1 hc2
  simp only [o_acpy] at h
  split at h
  · next n dp a sp b r =>
    obtain ⟨rfl, hr4, h⟩ := h
    obtain ⟨N, arr, hf, s', d', n', rfl, rfl, rfl, a1, a2, a3, h⟩ := hAI_ex h
    subst hR
    have hv := vf_le r (by omega)
    have hcell : H[b]? = some (vp_cell (g.2.1 0) (N, .inl arr)) := (hrep b _ hf).1
    obtain ⟨-, k0, hk0, cm0, hkk0⟩ := (hE.1.2 0 _ rfl).1 N (fun j => .int (arr j))
    have hv2 : (r.map fun v => v.category).sum ≤ 8 := by
      have : ∀ l : List Value, (l.map fun v => v.category).sum ≤ 2 * l.length := by
        intro l
        induction l with
        | nil => simp
        | cons v r ih =>
          have hv : v.category ≤ 2 := by rcases lv_cat v with h | h <;> omega
          simp only [List.map_cons, List.sum_cons, List.length_cons]
          omega
      have := this r
      omega
    intro T hT Xs
    obtain ⟨vm', X', step⟩ := Xs.arraycopy hx hown (hw _ h1 rfl) (hw _ h2 rfl) (hw _ h3 rfl) (hw _ h4 rfl) (src := b) (dst := b) (cs := vp_cell (g.2.1 0) (N, .inl arr)) (cd := vp_cell (g.2.1 0) (N, .inl arr)) (srcPos := nI s') (destPos := nI d') (n := nI n') (by rw [hT]; exact hcell) (by rw [hT]; exact hcell)
      (fun _ h => by cases h) (fun _ h => by cases h) (fun h => by cases h) (fun h => by cases h) hk0 hk0 hkk0 hkk0 (by rfl) (nI_pos (by omega)) (nI_pos (by omega)) (nI_pos (by omega))
      (by rw [nI_toInt (by omega), nI_toInt (by omega)]; show ¬ _ > ((arrV (g.2.1 0) N (fun j => .int (arr j))).slots.size : Int); rw [arrV_size]; omega)
      (by rw [nI_toInt (by omega), nI_toInt (by omega)]; show ¬ _ > ((arrV (g.2.1 0) N (fun j => .int (arr j))).slots.size : Int); rw [arrV_size]; omega)
      (fun vm₁ _ i hi => by
        rw [nI_clamp (by omega)] at hi
        have e : (vp_cell (g.2.1 0) (N, .inl arr)).slots.getD ((nI s').toNatClampNeg + i) .null = .int (arr (s' + i)) := by
          show (arrV (g.2.1 0) N (fun j => .int (arr j))).slots.getD _ _ = _
          rw [nI_clamp (by omega), Array.getD_eq_getD_getElem?, arrV_read _ _ (by omega)]
          rfl
        refine ⟨?_, ?_⟩
        · rw [e]
          rfl
        · rw [e]
          exact trivial)
      (g := F0 m pc ls (.int (nI n') :: .int (nI d') :: .ref b :: .int (nI s') :: .ref b :: r)) rfl (by show _ = c.maxLocals; rw [hml]; exact hl.1) (rest := r) rfl (by rw [hb]; exact d) (by show 1 ≤ 10 + _; omega) (by
        have hn : nativeFrameWords "java/lang/System" "arraycopy" 5 ≤ 100 := by decide
        show 2 * 0 + _ + _ ≤ 200 + _
        omega)
    have e1 : copied (vp_cell (g.2.1 0) (N, .inl arr)) (vp_cell (g.2.1 0) (N, .inl arr)) (nI s') (nI d') (nI n') = vp_cell (g.2.1 0) (N, .inl (va_cpy arr arr s' d' n')) := by
      have := va_copied (fun z => .int z) (g.2.1 0) (g.2.1 0) arr arr (dp := d') (n1 := N) a1
      unfold copied
      rw [nI_clamp (by omega), nI_clamp (by omega), nI_clamp (by omega)]
      exact this
    rw [e1] at X' step
    have hl9 : b < H.size := (Array.getElem?_eq_some_iff.mp hcell).1
    have hheap : ((T.setVm vm').setCell b (vp_cell (g.2.1 0) (N, .inl (va_cpy arr arr s' d' n')))).heap = H.setIfInBounds b (vp_cell (g.2.1 0) (N, .inl (va_cpy arr arr s' d' n'))) := by rw [← hT]; rfl
    have oq : ∀ q : Nat, q ≠ b → (H.setIfInBounds b (vp_cell (g.2.1 0) (N, .inl (va_cpy arr arr s' d' n'))))[q]? = H[q]? := fun q hq => by simp [Array.getElem?_setIfInBounds, Ne.symm hq]
    have hnew : (H.setIfInBounds b (vp_cell (g.2.1 0) (N, .inl (va_cpy arr arr s' d' n'))))[b]? = some (vp_cell (g.2.1 0) (N, .inl (va_cpy arr arr s' d' n'))) := by simp [Array.getElem?_setIfInBounds, hl9]
    have hA := (hrep b _ hf).2
    obtain ⟨t, t1, t2⟩ := hK _ _ _ _ _ (h _ rfl) ls _ _ cells slots hl (hrep.up hA hnew oq) ⟨by simp; exact hS.1, fun q g1 g2 => by
        rw [oq q (fun e => g2 (by rw [e]; exact hA))]
        exact hS.2.1 q g1 g2, fun q hq => by
        rcases List.mem_append.mp hq with h | h
        · exact hS.2.2 q h
        · obtain ⟨z, -, hz⟩ := List.mem_map.mp h
          rw [← hz]
          exact hA⟩ hc1 hc2 _ hheap X'
    exact ⟨t, step t t1, t2⟩
  · exact h.elim
def cR (V : CV) (i : Nat) (a : Nat → Int32) : CV := fun i' => if i' = i then a else V i'
theorem cR_s (V : CV) (i : Nat) (a : Nat → Int32) : cR V i a i = a := if_pos rfl
theorem cR_n (V : CV) {i i' : Nat} (a : Nat → Int32) (h : i' ≠ i) : cR V i a i' = V i' := if_neg h
theorem CR.kar {g : GG} {O f f1 : AH} {ad : Nat → Nat} {sh : Sh} {V : CV} {L : Int64} {i n : Nat} {a : Nat → Int32} {P : Prop} (h : CR g O f ad sh V L) (hk : kd sh i = 20) (e : f1 = aup f (ad i) (.inl (0, n, .inl a))) (hn : sh.N i = n) (kk : CR g O f1 ad sh (cR V i a) L → P) : P := by
  subst hn
  refine kk ?_
  subst e
  have hk0 : kd sh i ≠ 0 := by rw [hk]; decide
  obtain ⟨h1, h2, h3⟩ := h
  refine ⟨fun j c' hj => ?_, h2, fun q c' hq => ⟨?_, (h3 q c' hq).2⟩⟩
  · by_cases e : j = i
    · subst e
      rw [cell, hk] at hj
      rw [aup_s, ← hj, cR_s]
      rfl
    · have hc : cell g sh (cR V i a) L ad j = cell g sh V L ad j := by simp only [cell, cR_n V a e]
      rw [hc] at hj
      have hj0 : kd sh j ≠ 0 := fun z => by rw [cell, z] at hj; cases hj
      rw [aup_n f _ (fun z => e (h2 j i hj0 hk0 z))]
      exact h1 j c' hj
  · rw [aup_n f _ ((h3 q c' hq).2 i hk0)]
    exact (h3 q c' hq).1
theorem CR.kcp {g : GG} {O f f1 : AH} {ad : Nat → Nat} {sh : Sh} {V : CV} {L : Int64} {i n x y z : Nat} {a b : Nat → Int32} {P : Prop} (h : CR g O f ad sh V L) (hk : kd sh i = 20) (e : f1 = aup f (ad i) (.inl (0, n, .inl (va_cpy a b x y z)))) (hn : sh.N i = n) (kk : CR g O f1 ad sh (cR V i (va_cpy a b x y z)) L → P) : P := h.kar hk e hn kk
/-! ===== the class: groups ===== -/
theorem nI_m6 (a : Nat) : nI a * 6 = nI (6 * a) := by rw [Int32.mul_comm]; exact (Int32.ofNat_mul 6 a).symm
theorem nI_p4 (a : Nat) : nI a + 4 = nI (a + 4) := nI_add a 4
theorem nI_p5 (a : Nat) : nI a + 5 = nI (a + 5) := nI_add a 5
theorem nI_p6 (a : Nat) : nI a + 6 = nI (a + 6) := nI_add a 6
def T_Gr_restart (g : GG) : Spec2 := fun as f Q X => ∃ (O : AH) (ad : Nat → Nat) (sh : Sh) (V : CV) (L : Int64) (o : Nat) , as = [.ref (ad o)] ∧ CR g O f ad sh V L ∧ kd sh o = 5 ∧ ∀ f', CR g O f' ad sh (c2 V o 1 0) (L) → Q (none) f'
theorem i_Gr_restart_ {g : GG} {O : AH} {ad : Nat → Nat} {sh : Sh} {V : CV} {L : Int64} {o : Nat}  {f : AH} {Q : Option Value → AH → Prop} {X : String → AH → Prop} (hM : CR g O f ad sh V L) (hk : kd sh o = 5) (h : ∀ f', CR g O f' ad sh (c2 V o 1 0) (L) → Q (none) f') : T_Gr_restart g [.ref (ad o)] f Q X := ⟨O, ad, sh, V, L, o, rfl, hM, hk, h⟩
abbrev m_Gr_restart (g : GG) (l : Launch) : MI := (RX4, cX4_restart, 1, none, [], false, 1, g, l)
def b_Gr_restart_0 (g : GG) : Blk := [(1, o_aload 0), (1, o_push (.int 0)), (3, o_putI 5 1), (1, o_vret)]
set_option maxRecDepth 8000 in
theorem okb_Gr_restart_0 (g : GG) (l : Launch) (hst : l.stackTraces = false) : BlkOk (m_Gr_restart g l) 0 (b_Gr_restart_0 g) := 
  ⟨ok_aload_n (by decide +kernel : decode cX4_restart 0 = .ok (.aload_n 0, 1)) rfl,
  ⟨ok_iconst (by decide) (by decide +kernel : decode cX4_restart 1 = .ok (.iconst 0, 1)),
  ⟨ok_putI cls_5 (Nat.le_of_ble_eq_true rfl) tw_137 rfl rfl rfl (by decide +kernel : decode cX4_restart 2 = .ok (.putfield 15, 3)),
  ⟨ok_vret rfl (by decide +kernel : decode cX4_restart 5 = .ok (.return_, 1)), trivial⟩⟩⟩⟩
def k_Gr_restart (g : GG) : List (Nat × Blk) := [(0, b_Gr_restart_0 g)]
theorem ok_Gr_restart (g : GG) (l : Launch) (hst : l.stackTraces = false) : ∀ b ∈ k_Gr_restart g, BlkOk (m_Gr_restart g l) b.1 b.2 := List.forall_mem_cons.mpr ⟨okb_Gr_restart_0 g l hst, fun _ h => by cases h⟩
def i_Gr_restart (g : GG) : List (Nat × Blk) := []
theorem is_Gr_restart (g : GG) : ∀ x ∈ i_Gr_restart g, x ∈ k_Gr_restart g := sub_at [] rfl
theorem w_Gr_restart_0 (g : GG) (u : Unit) (n : List Unit) (B : Bx) (Q : Option Value → AH → Prop) (X : String → AH → Prop) (lv : LV) (st : List Value) (f : AH) (bc bs : Nat) : wpF (i_Gr_restart g) (u :: n) B Q X 0 lv st f bc bs = B 0 lv st f bc bs := (rfl)
set_option maxRecDepth 4000 in
set_option maxHeartbeats 4000000 in
theorem s_Gr_restart (g : GG) (l : Launch) (hst : l.stackTraces = false) : Snd yX4_restart (m_Gr_restart g l) 0 0 (T_Gr_restart g) := by
  refine snd_of (plainFor_of_name (by decide)) rfl (fun h => by first | rfl | cases h) rfl hst (k_Gr_restart g) (ok_Gr_restart g l hst) ?_
  rintro as f Q X ⟨O, ad, sh, V, L, o, rfl, hM, hk, hq⟩
  refine ⟨[some (.ref (ad o))], rfl, Nat.le_of_ble_eq_true rfl, fun B run => ?_⟩
  repeat (first | (refine hq _ ?_; exact hM) | (refine hx _ ?_; exact hM) | (refine run _ _ (i_Gr_restart g) [()] rfl (is_Gr_restart g) _ _ _ _ _ ?_; (try simp only [Option.toList_some, Option.toList_none, List.cons_append, List.nil_append, List.append_nil]); simp -dsimp (disch := omega) only [thr_n, wdC_n, wrC_n, tchC_n, wpF_0, c2_n, ↓e_callX, ↓e_callX0, ↓e_acpy, cR_s, cR_n, ↓hobj_c (hM.o5 hk), ↓hAI_c (hM.ai (kd_5_1 hk)), c2_s, c2_n, eq_self, nI_dec, ixE, nI_4m, nI_16m, nI_10m, nI_2m, nI_add, nI_1, nI_p2, nI_p3, nI_pred, c3_n, c3_s, c3_i, upd_s, upd_n, rowU_n, rowU_ge, true_imp_iff, false_imp_iff, not_true_eq_false, not_false_eq_true, b2i_t, b2i_f, i32_10, i32_00, i32_11, ite_true_I, false_and, and_false, true_and, and_true, or_true, true_or, false_or, or_false, w_Gr_restart_0, ↓b_Gr_restart_0, ↓wpL_n, ↓wpL_c, ↓e_iadd, ↓e_isub, ↓e_imul, ↓e_iand, ↓e_ior, ↓e_ixor, ↓e_ishl, ↓e_ishr, ↓e_iushr, ↓e_idiv, ↓e_irem, ↓e_ineg, ↓e_ladd, ↓e_lcmp, ↓e_i2l, ↓e_i2c, ↓e_i2d, ↓e_i2f, ↓e_l2f, ↓e_f2d, ↓e_fdiv, ↓e_ddiv, ↓e_dcmp_l, ↓e_fcmp_l, ↓e_dcmp_g, ↓e_fcmp_g, ↓e_push, ↓e_iload, ↓e_fload, ↓e_dload, ↓e_aload, ↓e_istore, ↓e_fstore, ↓e_astore, ↓e_iinc, ↓e_ifeq, ↓e_iceq, ↓e_ifne, ↓e_icne, ↓e_iflt, ↓e_iclt, ↓e_ifge, ↓e_icge, ↓e_ifgt, ↓e_icgt, ↓e_ifle, ↓e_icle, ↓e_goto, ↓e_dup, ↓e_pop, ↓e_dup_x1, ↓e_dup2, ↓e_getf, ↓e_putI, ↓e_putJ, ↓e_putC, ↓e_putR, ↓e_iald, ↓e_zald, ↓e_cald, ↓e_lald, ↓e_dald, ↓e_iast, ↓e_zast, ↓e_cast, ↓e_last, ↓e_dast, ↓e_aald, ↓e_alen, ↓e_throw, ↓e_iret, ↓e_zret, ↓e_cret, ↓e_aret, ↓e_lret, ↓e_fret, ↓e_dret, ↓e_vret, ↓e_new, ↓e_newarr, ↓e_pop1, ↓e_siald, ↓e_salen, ↓e_call, ↓e_callV, ↓e_callI, ↓e_call0, ↓e_callR, PI_e, PFl_e, PD_e, PR_e, PO_e, PHd_e, PA_e, PA_n, IX_e, IX_0, reduceIte, lget, lset, lclr, fget, ctake, cdrop, c1, Nat.reduceAdd, List.reverse_cons, List.reverse_nil, List.nil_append, List.cons_append, Option.toList_some, Option.toList_none, List.length_cons, List.length_nil, true_and, and_true, true_or, or_true, Nat.reduceLeDiff, Nat.reduceLT, Nat.zero_le, List.append_nil]) | refine ⟨_, rfl, by omega, by omega, ?_⟩ | (refine ⟨0, 0, rfl, rfl, ?_⟩) | (refine ⟨1, 6, rfl, rfl, ?_⟩) | (refine ⟨2, 12, rfl, rfl, ?_⟩) | (refine And.intro ?_ ?_; focus (first | exact b2i_01 _ | assumption | decide | (simp; done))) | (intro f e; (first | (refine CR.k5_1 hM hk e ?_ fun hM => ?_; (focus (first | with_reducible rfl | with_reducible assumption | (simp -dsimp (disch := omega) only [c2_n, c2_s, upd_s, upd_n, thr_n, wdC_n, wrC_n, tchC_n, wpF_0, c2_n, ↓e_callX, ↓e_callX0, ↓e_acpy, cR_s, cR_n]; done))); clear e)); try simp -dsimp (disch := omega) only [thr_n, wdC_n, wrC_n, tchC_n, wpF_0, c2_n, ↓e_callX, ↓e_callX0, ↓e_acpy, cR_s, cR_n, ↓hobj_c (hM.o5 hk), ↓hAI_c (hM.ai (kd_5_1 hk)), c2_s, c2_n, eq_self, nI_dec, ixE, nI_4m, nI_16m, nI_10m, nI_2m, nI_add, nI_1, nI_p2, nI_p3, nI_pred, c3_n, c3_s, c3_i, upd_s, upd_n, rowU_n, rowU_ge, true_imp_iff, false_imp_iff, not_true_eq_false, not_false_eq_true, b2i_t, b2i_f, i32_10, i32_00, i32_11, ite_true_I, false_and, and_false, true_and, and_true, or_true, true_or, false_or, or_false, w_Gr_restart_0, ↓b_Gr_restart_0, ↓wpL_n, ↓wpL_c, ↓e_iadd, ↓e_isub, ↓e_imul, ↓e_iand, ↓e_ior, ↓e_ixor, ↓e_ishl, ↓e_ishr, ↓e_iushr, ↓e_idiv, ↓e_irem, ↓e_ineg, ↓e_ladd, ↓e_lcmp, ↓e_i2l, ↓e_i2c, ↓e_i2d, ↓e_i2f, ↓e_l2f, ↓e_f2d, ↓e_fdiv, ↓e_ddiv, ↓e_dcmp_l, ↓e_fcmp_l, ↓e_dcmp_g, ↓e_fcmp_g, ↓e_push, ↓e_iload, ↓e_fload, ↓e_dload, ↓e_aload, ↓e_istore, ↓e_fstore, ↓e_astore, ↓e_iinc, ↓e_ifeq, ↓e_iceq, ↓e_ifne, ↓e_icne, ↓e_iflt, ↓e_iclt, ↓e_ifge, ↓e_icge, ↓e_ifgt, ↓e_icgt, ↓e_ifle, ↓e_icle, ↓e_goto, ↓e_dup, ↓e_pop, ↓e_dup_x1, ↓e_dup2, ↓e_getf, ↓e_putI, ↓e_putJ, ↓e_putC, ↓e_putR, ↓e_iald, ↓e_zald, ↓e_cald, ↓e_lald, ↓e_dald, ↓e_iast, ↓e_zast, ↓e_cast, ↓e_last, ↓e_dast, ↓e_aald, ↓e_alen, ↓e_throw, ↓e_iret, ↓e_zret, ↓e_cret, ↓e_aret, ↓e_lret, ↓e_fret, ↓e_dret, ↓e_vret, ↓e_new, ↓e_newarr, ↓e_pop1, ↓e_siald, ↓e_salen, ↓e_call, ↓e_callV, ↓e_callI, ↓e_call0, ↓e_callR, PI_e, PFl_e, PD_e, PR_e, PO_e, PHd_e, PA_e, PA_n, IX_e, IX_0, reduceIte, lget, lset, lclr, fget, ctake, cdrop, c1, Nat.reduceAdd, List.reverse_cons, List.reverse_nil, List.nil_append, List.cons_append, Option.toList_some, Option.toList_none, List.length_cons, List.length_nil, true_and, and_true, true_or, or_true, Nat.reduceLeDiff, Nat.reduceLT, Nat.zero_le, List.append_nil]))
def gCe (sh : Sh) (V : CV) (o i w : Nat) : Int32 := if 6 * i + w < sh.N (o + 1) then V (o + 1) (6 * i + w) else 0
def T_Gr_cell (g : GG) : Spec2 := fun as f Q X => ∃ (O : AH) (ad : Nat → Nat) (sh : Sh) (V : CV) (L : Int64) (o : Nat) (i : Nat) (w : Nat), as = [.ref (ad o), .int (nI i), .int (nI w)] ∧ CR g O f ad sh V L ∧ kd sh o = 5 ∧ (i < 10000 ∧ w < 6 ∧ sh.N (o + 1) ≤ 960) ∧ ∀ f', CR g O f' ad sh (V) (L) → Q (some (.int (gCe sh V o i w))) f'
theorem i_Gr_cell_ {g : GG} {O : AH} {ad : Nat → Nat} {sh : Sh} {V : CV} {L : Int64} {o : Nat} {i : Nat} {w : Nat} {f : AH} {Q : Option Value → AH → Prop} {X : String → AH → Prop} (hM : CR g O f ad sh V L) (hk : kd sh o = 5) (hp : i < 10000 ∧ w < 6 ∧ sh.N (o + 1) ≤ 960) (h : ∀ f', CR g O f' ad sh (V) (L) → Q (some (.int (gCe sh V o i w))) f') : T_Gr_cell g [.ref (ad o), .int (nI i), .int (nI w)] f Q X := ⟨O, ad, sh, V, L, o, i, w, rfl, hM, hk, hp, h⟩
abbrev m_Gr_cell (g : GG) (l : Launch) : MI := (RX4, cX4_cell, 4, (some .int), [], false, 1, g, l)
def b_Gr_cell_0 (g : GG) : Blk := [(1, o_iload 1), (2, o_push (.int 6)), (1, o_imul), (1, o_iload 2), (1, o_iadd), (1, o_istore 3), (1, o_iload 3), (3, o_iflt 29), (1, o_iload 3), (1, o_aload 0), (3, o_getf 5 0), (1, o_alen g), (3, o_icge 29), (1, o_aload 0), (3, o_getf 5 0), (1, o_iload 3), (1, o_iald), (3, o_goto 30)]
def b_Gr_cell_29 (g : GG) : Blk := [(1, o_push (.int 0))]
def b_Gr_cell_30 (g : GG) : Blk := [(1, o_iret)]
set_option maxRecDepth 8000 in
theorem okb_Gr_cell_0 (g : GG) (l : Launch) (hst : l.stackTraces = false) : BlkOk (m_Gr_cell g l) 0 (b_Gr_cell_0 g) := 
  ⟨ok_iload_n (by decide +kernel : decode cX4_cell 0 = .ok (.iload_n 1, 1)) rfl,
  ⟨ok_bipush (by decide) (by decide +kernel : decode cX4_cell 1 = .ok (.bipush 6, 2)),
  ⟨ok_imul (by decide +kernel : decode cX4_cell 3 = .ok (.imul, 1)),
  ⟨ok_iload_n (by decide +kernel : decode cX4_cell 4 = .ok (.iload_n 2, 1)) rfl,
  ⟨ok_iadd (by decide +kernel : decode cX4_cell 5 = .ok (.iadd, 1)),
  ⟨ok_istore_n rfl (Nat.le_of_ble_eq_true rfl) (by decide +kernel : decode cX4_cell 6 = .ok (.istore_n 3, 1)),
  ⟨ok_iload_n (by decide +kernel : decode cX4_cell 7 = .ok (.iload_n 3, 1)) rfl,
  ⟨ok_iflt (by decide) (by decide +kernel : decode cX4_cell 8 = .ok (.ifCond .lt 21, 3)),
  ⟨ok_iload_n (by decide +kernel : decode cX4_cell 11 = .ok (.iload_n 3, 1)) rfl,
  ⟨ok_aload_n (by decide +kernel : decode cX4_cell 12 = .ok (.aload_n 0, 1)) rfl,
  ⟨ok_getf cls_5 (Nat.le_of_ble_eq_true rfl) tw_136 rfl (by decide +kernel : decode cX4_cell 13 = .ok (.getfield 11, 3)),
  ⟨ok_alen (by decide +kernel : decode cX4_cell 16 = .ok (.arraylength, 1)),
  ⟨ok_icge (by decide) (by decide +kernel : decode cX4_cell 17 = .ok (.if_icmp .ge 12, 3)),
  ⟨ok_aload_n (by decide +kernel : decode cX4_cell 20 = .ok (.aload_n 0, 1)) rfl,
  ⟨ok_getf cls_5 (Nat.le_of_ble_eq_true rfl) tw_136 rfl (by decide +kernel : decode cX4_cell 21 = .ok (.getfield 11, 3)),
  ⟨ok_iload_n (by decide +kernel : decode cX4_cell 24 = .ok (.iload_n 3, 1)) rfl,
  ⟨ok_iald (by decide +kernel : decode cX4_cell 25 = .ok (.iaload, 1)),
  ⟨ok_goto (by decide) (by decide +kernel : decode cX4_cell 26 = .ok (.goto 4, 3)), trivial⟩⟩⟩⟩⟩⟩⟩⟩⟩⟩⟩⟩⟩⟩⟩⟩⟩⟩
set_option maxRecDepth 8000 in
theorem okb_Gr_cell_29 (g : GG) (l : Launch) (hst : l.stackTraces = false) : BlkOk (m_Gr_cell g l) 29 (b_Gr_cell_29 g) := 
  ⟨ok_iconst (by decide) (by decide +kernel : decode cX4_cell 29 = .ok (.iconst 0, 1)), trivial⟩
set_option maxRecDepth 8000 in
theorem okb_Gr_cell_30 (g : GG) (l : Launch) (hst : l.stackTraces = false) : BlkOk (m_Gr_cell g l) 30 (b_Gr_cell_30 g) := 
  ⟨ok_iret rfl (by decide +kernel : decode cX4_cell 30 = .ok (.ireturn, 1)), trivial⟩
def k_Gr_cell (g : GG) : List (Nat × Blk) := [(0, b_Gr_cell_0 g), (29, b_Gr_cell_29 g), (30, b_Gr_cell_30 g)]
theorem ok_Gr_cell (g : GG) (l : Launch) (hst : l.stackTraces = false) : ∀ b ∈ k_Gr_cell g, BlkOk (m_Gr_cell g l) b.1 b.2 := List.forall_mem_cons.mpr ⟨okb_Gr_cell_0 g l hst, List.forall_mem_cons.mpr ⟨okb_Gr_cell_29 g l hst, List.forall_mem_cons.mpr ⟨okb_Gr_cell_30 g l hst, fun _ h => by cases h⟩⟩⟩
def i_Gr_cell (g : GG) : List (Nat × Blk) := [(29, b_Gr_cell_29 g), (30, b_Gr_cell_30 g)]
theorem is_Gr_cell (g : GG) : ∀ x ∈ i_Gr_cell g, x ∈ k_Gr_cell g := sub_at [1, 2] rfl
theorem w_Gr_cell_0 (g : GG) (u : Unit) (n : List Unit) (B : Bx) (Q : Option Value → AH → Prop) (X : String → AH → Prop) (lv : LV) (st : List Value) (f : AH) (bc bs : Nat) : wpF (i_Gr_cell g) (u :: n) B Q X 0 lv st f bc bs = B 0 lv st f bc bs := (rfl)
theorem w_Gr_cell_29 (g : GG) (u : Unit) (n : List Unit) (B : Bx) (Q : Option Value → AH → Prop) (X : String → AH → Prop) (lv : LV) (st : List Value) (f : AH) (bc bs : Nat) : wpF (i_Gr_cell g) (u :: n) B Q X 29 lv st f bc bs = wpL (b_Gr_cell_29 g) 29 lv st f bc bs (wpF (i_Gr_cell g) n B Q X) Q X := (rfl)
theorem w_Gr_cell_30 (g : GG) (u : Unit) (n : List Unit) (B : Bx) (Q : Option Value → AH → Prop) (X : String → AH → Prop) (lv : LV) (st : List Value) (f : AH) (bc bs : Nat) : wpF (i_Gr_cell g) (u :: n) B Q X 30 lv st f bc bs = wpL (b_Gr_cell_30 g) 30 lv st f bc bs (wpF (i_Gr_cell g) n B Q X) Q X := (rfl)
set_option maxRecDepth 4000 in
set_option maxHeartbeats 4000000 in
theorem s_Gr_cell (g : GG) (l : Launch) (hst : l.stackTraces = false) : Snd yX4_cell (m_Gr_cell g l) 0 0 (T_Gr_cell g) := by
  refine snd_of (plainFor_of_name (by decide)) rfl (fun h => by first | rfl | cases h) rfl hst (k_Gr_cell g) (ok_Gr_cell g l hst) ?_
  rintro as f Q X ⟨O, ad, sh, V, L, o, i, w, rfl, hM, hk, hp, hq⟩
  refine ⟨[some (.ref (ad o)), some (.int (nI i)), some (.int (nI w)), none], rfl, Nat.le_of_ble_eq_true rfl, fun B run => ?_⟩
  obtain ⟨hi, hw, hN⟩ := hp
  have h0 : ¬ nI (6 * i + w) < 0 := nI_pos (by omega)
  rcases Nat.lt_or_ge (6 * i + w) (sh.N (o + 1)) with h1 | h1
  · have h2 : ¬ nI (sh.N (o + 1)) ≤ nI (6 * i + w) := nI_ge h1 (by omega)
    rw [gCe, if_pos h1] at hq
    repeat (first | (refine hq _ ?_; exact hM) | (refine hx _ ?_; exact hM) | (refine run _ _ (i_Gr_cell g) [(), (), ()] rfl (is_Gr_cell g) _ _ _ _ _ ?_; (try simp only [Option.toList_some, Option.toList_none, List.cons_append, List.nil_append, List.append_nil]); simp -dsimp (disch := omega) only [nI_m6, h0, h2, thr_n, wdC_n, wrC_n, tchC_n, wpF_0, c2_n, ↓e_callX, ↓e_callX0, ↓e_acpy, cR_s, cR_n, ↓hobj_c (hM.o5 hk), ↓hAI_c (hM.ai (kd_5_1 hk)), ↓hM.ai (kd_5_1 hk), c2_s, c2_n, eq_self, nI_dec, ixE, nI_4m, nI_16m, nI_10m, nI_2m, nI_add, nI_1, nI_p2, nI_p3, nI_pred, c3_n, c3_s, c3_i, upd_s, upd_n, rowU_n, rowU_ge, true_imp_iff, false_imp_iff, not_true_eq_false, not_false_eq_true, b2i_t, b2i_f, i32_10, i32_00, i32_11, ite_true_I, false_and, and_false, true_and, and_true, or_true, true_or, false_or, or_false, w_Gr_cell_0, w_Gr_cell_29, w_Gr_cell_30, ↓b_Gr_cell_0, ↓b_Gr_cell_29, ↓b_Gr_cell_30, ↓wpL_n, ↓wpL_c, ↓e_iadd, ↓e_isub, ↓e_imul, ↓e_iand, ↓e_ior, ↓e_ixor, ↓e_ishl, ↓e_ishr, ↓e_iushr, ↓e_idiv, ↓e_irem, ↓e_ineg, ↓e_ladd, ↓e_lcmp, ↓e_i2l, ↓e_i2c, ↓e_i2d, ↓e_i2f, ↓e_l2f, ↓e_f2d, ↓e_fdiv, ↓e_ddiv, ↓e_dcmp_l, ↓e_fcmp_l, ↓e_dcmp_g, ↓e_fcmp_g, ↓e_push, ↓e_iload, ↓e_fload, ↓e_dload, ↓e_aload, ↓e_istore, ↓e_fstore, ↓e_astore, ↓e_iinc, ↓e_ifeq, ↓e_iceq, ↓e_ifne, ↓e_icne, ↓e_iflt, ↓e_iclt, ↓e_ifge, ↓e_icge, ↓e_ifgt, ↓e_icgt, ↓e_ifle, ↓e_icle, ↓e_goto, ↓e_dup, ↓e_pop, ↓e_dup_x1, ↓e_dup2, ↓e_getf, ↓e_putI, ↓e_putJ, ↓e_putC, ↓e_putR, ↓e_iald, ↓e_zald, ↓e_cald, ↓e_lald, ↓e_dald, ↓e_iast, ↓e_zast, ↓e_cast, ↓e_last, ↓e_dast, ↓e_aald, ↓e_alen, ↓e_throw, ↓e_iret, ↓e_zret, ↓e_cret, ↓e_aret, ↓e_lret, ↓e_fret, ↓e_dret, ↓e_vret, ↓e_new, ↓e_newarr, ↓e_pop1, ↓e_siald, ↓e_salen, ↓e_call, ↓e_callV, ↓e_callI, ↓e_call0, ↓e_callR, PI_e, PFl_e, PD_e, PR_e, PO_e, PHd_e, PA_e, PA_n, IX_e, IX_0, reduceIte, lget, lset, lclr, fget, ctake, cdrop, c1, Nat.reduceAdd, List.reverse_cons, List.reverse_nil, List.nil_append, List.cons_append, Option.toList_some, Option.toList_none, List.length_cons, List.length_nil, true_and, and_true, true_or, or_true, Nat.reduceLeDiff, Nat.reduceLT, Nat.zero_le, List.append_nil]) | refine ⟨_, rfl, by omega, by omega, ?_⟩ | (refine ⟨0, 0, rfl, rfl, ?_⟩) | (refine ⟨1, 6, rfl, rfl, ?_⟩) | (refine ⟨2, 12, rfl, rfl, ?_⟩) | (refine And.intro ?_ ?_; focus (first | exact b2i_01 _ | assumption | decide | (simp; done))))
  · have h2 : nI (sh.N (o + 1)) ≤ nI (6 * i + w) := nI_le h1 (by omega)
    rw [gCe, if_neg (Nat.not_lt.mpr h1)] at hq
    repeat (first | (refine hq _ ?_; exact hM) | (refine hx _ ?_; exact hM) | (refine run _ _ (i_Gr_cell g) [(), (), ()] rfl (is_Gr_cell g) _ _ _ _ _ ?_; (try simp only [Option.toList_some, Option.toList_none, List.cons_append, List.nil_append, List.append_nil]); simp -dsimp (disch := omega) only [nI_m6, h0, h2, thr_n, wdC_n, wrC_n, tchC_n, wpF_0, c2_n, ↓e_callX, ↓e_callX0, ↓e_acpy, cR_s, cR_n, ↓hobj_c (hM.o5 hk), ↓hAI_c (hM.ai (kd_5_1 hk)), ↓hM.ai (kd_5_1 hk), c2_s, c2_n, eq_self, nI_dec, ixE, nI_4m, nI_16m, nI_10m, nI_2m, nI_add, nI_1, nI_p2, nI_p3, nI_pred, c3_n, c3_s, c3_i, upd_s, upd_n, rowU_n, rowU_ge, true_imp_iff, false_imp_iff, not_true_eq_false, not_false_eq_true, b2i_t, b2i_f, i32_10, i32_00, i32_11, ite_true_I, false_and, and_false, true_and, and_true, or_true, true_or, false_or, or_false, w_Gr_cell_0, w_Gr_cell_29, w_Gr_cell_30, ↓b_Gr_cell_0, ↓b_Gr_cell_29, ↓b_Gr_cell_30, ↓wpL_n, ↓wpL_c, ↓e_iadd, ↓e_isub, ↓e_imul, ↓e_iand, ↓e_ior, ↓e_ixor, ↓e_ishl, ↓e_ishr, ↓e_iushr, ↓e_idiv, ↓e_irem, ↓e_ineg, ↓e_ladd, ↓e_lcmp, ↓e_i2l, ↓e_i2c, ↓e_i2d, ↓e_i2f, ↓e_l2f, ↓e_f2d, ↓e_fdiv, ↓e_ddiv, ↓e_dcmp_l, ↓e_fcmp_l, ↓e_dcmp_g, ↓e_fcmp_g, ↓e_push, ↓e_iload, ↓e_fload, ↓e_dload, ↓e_aload, ↓e_istore, ↓e_fstore, ↓e_astore, ↓e_iinc, ↓e_ifeq, ↓e_iceq, ↓e_ifne, ↓e_icne, ↓e_iflt, ↓e_iclt, ↓e_ifge, ↓e_icge, ↓e_ifgt, ↓e_icgt, ↓e_ifle, ↓e_icle, ↓e_goto, ↓e_dup, ↓e_pop, ↓e_dup_x1, ↓e_dup2, ↓e_getf, ↓e_putI, ↓e_putJ, ↓e_putC, ↓e_putR, ↓e_iald, ↓e_zald, ↓e_cald, ↓e_lald, ↓e_dald, ↓e_iast, ↓e_zast, ↓e_cast, ↓e_last, ↓e_dast, ↓e_aald, ↓e_alen, ↓e_throw, ↓e_iret, ↓e_zret, ↓e_cret, ↓e_aret, ↓e_lret, ↓e_fret, ↓e_dret, ↓e_vret, ↓e_new, ↓e_newarr, ↓e_pop1, ↓e_siald, ↓e_salen, ↓e_call, ↓e_callV, ↓e_callI, ↓e_call0, ↓e_callR, PI_e, PFl_e, PD_e, PR_e, PO_e, PHd_e, PA_e, PA_n, IX_e, IX_0, reduceIte, lget, lset, lclr, fget, ctake, cdrop, c1, Nat.reduceAdd, List.reverse_cons, List.reverse_nil, List.nil_append, List.cons_append, Option.toList_some, Option.toList_none, List.length_cons, List.length_nil, true_and, and_true, true_or, or_true, Nat.reduceLeDiff, Nat.reduceLT, Nat.zero_le, List.append_nil]) | refine ⟨_, rfl, by omega, by omega, ?_⟩ | (refine ⟨0, 0, rfl, rfl, ?_⟩) | (refine ⟨1, 6, rfl, rfl, ?_⟩) | (refine ⟨2, 12, rfl, rfl, ?_⟩) | (refine And.intro ?_ ?_; focus (first | exact b2i_01 _ | assumption | decide | (simp; done))))
/-- the place of a key among so many groups from i on -/
def gpl (v : Nat → Int32) (k : Int32) : Nat → Nat → Nat
  | 0, i => i
  | n + 1, i => if v (6 * i) < k then gpl v k n (i + 1) else i
theorem gpl_le (v : Nat → Int32) (k : Int32) : ∀ n i, i ≤ gpl v k n i ∧ gpl v k n i ≤ i + n
  | 0, i => ⟨Nat.le_refl _, Nat.le_refl _⟩
  | n + 1, i => by
    rw [gpl]
    split
    · have := gpl_le v k n (i + 1); omega
    · omega
def GrOk (sh : Sh) (V : CV) (o : Nat) : Prop := (∃ n, 6 * n ≤ sh.N (o + 1) ∧ V o 1 = nI n) ∧ sh.N (o + 1) ≤ 960
theorem gCe_lt {sh : Sh} {V : CV} {o i w : Nat} (h : 6 * i + w < sh.N (o + 1)) : gCe sh V o i w = V (o + 1) (6 * i + w) := if_pos h
def gpX (V : CV) (o : Nat) (k : Int32) : Nat := gpl (V (o + 1)) k (nn (V o 1)) 0
def T_Gr_placeOf (g : GG) : Spec2 := fun as f Q X => ∃ (O : AH) (ad : Nat → Nat) (sh : Sh) (V : CV) (L : Int64) (o : Nat) (k : Int32), as = [.ref (ad o), .int k] ∧ CR g O f ad sh V L ∧ kd sh o = 5 ∧ (GrOk sh V o) ∧ ∀ f', CR g O f' ad sh (V) (L) → Q (some (.int (nI (gpX V o k)))) f'
theorem i_Gr_placeOf_ {g : GG} {O : AH} {ad : Nat → Nat} {sh : Sh} {V : CV} {L : Int64} {o : Nat} {k : Int32} {f : AH} {Q : Option Value → AH → Prop} {X : String → AH → Prop} (hM : CR g O f ad sh V L) (hk : kd sh o = 5) (hp : GrOk sh V o) (h : ∀ f', CR g O f' ad sh (V) (L) → Q (some (.int (nI (gpX V o k)))) f') : T_Gr_placeOf g [.ref (ad o), .int k] f Q X := ⟨O, ad, sh, V, L, o, k, rfl, hM, hk, hp, h⟩
abbrev m_Gr_placeOf (g : GG) (l : Launch) : MI := (RX4, cX4_placeOf, 3, (some .int), [], false, 2, g, l)
def b_Gr_placeOf_0 (g : GG) : Blk := [(1, o_push (.int 0)), (1, o_istore 2)]
def b_Gr_placeOf_2 (g : GG) : Blk := [(1, o_iload 2), (1, o_aload 0), (3, o_getf 5 1), (3, o_icge 26), (1, o_aload 0), (1, o_iload 2), (1, o_push (.int 0)), (3, o_callR (o_call0 (T_Gr_cell g) 3) 5 3)]
def b_Gr_placeOf_16 (g : GG) : Blk := [(1, o_iload 1), (3, o_icge 26), (3, o_iinc 2 1), (3, o_goto 2)]
def b_Gr_placeOf_26 (g : GG) : Blk := [(1, o_iload 2), (1, o_iret)]
set_option maxRecDepth 8000 in
theorem okb_Gr_placeOf_0 (g : GG) (l : Launch) (hst : l.stackTraces = false) : BlkOk (m_Gr_placeOf g l) 0 (b_Gr_placeOf_0 g) := 
  ⟨ok_iconst (by decide) (by decide +kernel : decode cX4_placeOf 0 = .ok (.iconst 0, 1)),
  ⟨ok_istore_n rfl (Nat.le_of_ble_eq_true rfl) (by decide +kernel : decode cX4_placeOf 1 = .ok (.istore_n 2, 1)), trivial⟩⟩
set_option maxRecDepth 8000 in
theorem okb_Gr_placeOf_2 (g : GG) (l : Launch) (hst : l.stackTraces = false) : BlkOk (m_Gr_placeOf g l) 2 (b_Gr_placeOf_2 g) := 
  ⟨ok_iload_n (by decide +kernel : decode cX4_placeOf 2 = .ok (.iload_n 2, 1)) rfl,
  ⟨ok_aload_n (by decide +kernel : decode cX4_placeOf 3 = .ok (.aload_n 0, 1)) rfl,
  ⟨ok_getf cls_5 (Nat.le_of_ble_eq_true rfl) tw_137 rfl (by decide +kernel : decode cX4_placeOf 4 = .ok (.getfield 15, 3)),
  ⟨ok_icge (by decide) (by decide +kernel : decode cX4_placeOf 7 = .ok (.if_icmp .ge 19, 3)),
  ⟨ok_aload_n (by decide +kernel : decode cX4_placeOf 10 = .ok (.aload_n 0, 1)) rfl,
  ⟨ok_iload_n (by decide +kernel : decode cX4_placeOf 11 = .ok (.iload_n 2, 1)) rfl,
  ⟨ok_iconst (by decide) (by decide +kernel : decode cX4_placeOf 12 = .ok (.iconst 0, 1)),
  ⟨(ok_callV (k := 2) cls_5 (s_Gr_cell g l hst) (show 1 < 2 from by decide) (Nat.le_of_ble_eq_true rfl) rfl rfl tw_352 tw_353 tw_354 tw_8 tw_355 ⟨by decide, by decide, by decide⟩ (by decide +kernel : decode cX4_placeOf 13 = .ok (.invokevirtual 23, 3))).mono callR0_of, trivial⟩⟩⟩⟩⟩⟩⟩⟩
set_option maxRecDepth 8000 in
theorem okb_Gr_placeOf_16 (g : GG) (l : Launch) (hst : l.stackTraces = false) : BlkOk (m_Gr_placeOf g l) 16 (b_Gr_placeOf_16 g) := 
  ⟨ok_iload_n (by decide +kernel : decode cX4_placeOf 16 = .ok (.iload_n 1, 1)) rfl,
  ⟨ok_icge (by decide) (by decide +kernel : decode cX4_placeOf 17 = .ok (.if_icmp .ge 9, 3)),
  ⟨ok_iinc (by decide) (Nat.le_of_ble_eq_true rfl) (by decide +kernel : decode cX4_placeOf 20 = .ok (.iinc 2 1, 3)),
  ⟨ok_goto (by decide) (by decide +kernel : decode cX4_placeOf 23 = .ok (.goto (-21), 3)), trivial⟩⟩⟩⟩
set_option maxRecDepth 8000 in
theorem okb_Gr_placeOf_26 (g : GG) (l : Launch) (hst : l.stackTraces = false) : BlkOk (m_Gr_placeOf g l) 26 (b_Gr_placeOf_26 g) := 
  ⟨ok_iload_n (by decide +kernel : decode cX4_placeOf 26 = .ok (.iload_n 2, 1)) rfl,
  ⟨ok_iret rfl (by decide +kernel : decode cX4_placeOf 27 = .ok (.ireturn, 1)), trivial⟩⟩
def k_Gr_placeOf (g : GG) : List (Nat × Blk) := [(0, b_Gr_placeOf_0 g), (2, b_Gr_placeOf_2 g), (16, b_Gr_placeOf_16 g), (26, b_Gr_placeOf_26 g)]
theorem ok_Gr_placeOf (g : GG) (l : Launch) (hst : l.stackTraces = false) : ∀ b ∈ k_Gr_placeOf g, BlkOk (m_Gr_placeOf g l) b.1 b.2 := List.forall_mem_cons.mpr ⟨okb_Gr_placeOf_0 g l hst, List.forall_mem_cons.mpr ⟨okb_Gr_placeOf_2 g l hst, List.forall_mem_cons.mpr ⟨okb_Gr_placeOf_16 g l hst, List.forall_mem_cons.mpr ⟨okb_Gr_placeOf_26 g l hst, fun _ h => by cases h⟩⟩⟩⟩
def i_Gr_placeOf (g : GG) : List (Nat × Blk) := [(26, b_Gr_placeOf_26 g)]
theorem is_Gr_placeOf (g : GG) : ∀ x ∈ i_Gr_placeOf g, x ∈ k_Gr_placeOf g := sub_at [3] rfl
theorem w_Gr_placeOf_0 (g : GG) (u : Unit) (n : List Unit) (B : Bx) (Q : Option Value → AH → Prop) (X : String → AH → Prop) (lv : LV) (st : List Value) (f : AH) (bc bs : Nat) : wpF (i_Gr_placeOf g) (u :: n) B Q X 0 lv st f bc bs = B 0 lv st f bc bs := (rfl)
theorem w_Gr_placeOf_2 (g : GG) (u : Unit) (n : List Unit) (B : Bx) (Q : Option Value → AH → Prop) (X : String → AH → Prop) (lv : LV) (st : List Value) (f : AH) (bc bs : Nat) : wpF (i_Gr_placeOf g) (u :: n) B Q X 2 lv st f bc bs = B 2 lv st f bc bs := (rfl)
theorem w_Gr_placeOf_16 (g : GG) (u : Unit) (n : List Unit) (B : Bx) (Q : Option Value → AH → Prop) (X : String → AH → Prop) (lv : LV) (st : List Value) (f : AH) (bc bs : Nat) : wpF (i_Gr_placeOf g) (u :: n) B Q X 16 lv st f bc bs = B 16 lv st f bc bs := (rfl)
theorem w_Gr_placeOf_26 (g : GG) (u : Unit) (n : List Unit) (B : Bx) (Q : Option Value → AH → Prop) (X : String → AH → Prop) (lv : LV) (st : List Value) (f : AH) (bc bs : Nat) : wpF (i_Gr_placeOf g) (u :: n) B Q X 26 lv st f bc bs = wpL (b_Gr_placeOf_26 g) 26 lv st f bc bs (wpF (i_Gr_placeOf g) n B Q X) Q X := (rfl)
set_option maxRecDepth 4000 in
set_option maxHeartbeats 4000000 in
theorem s_Gr_placeOf (g : GG) (l : Launch) (hst : l.stackTraces = false) : Snd yX4_placeOf (m_Gr_placeOf g l) 0 0 (T_Gr_placeOf g) := by
  refine snd_of (plainFor_of_name (by decide)) rfl (fun h => by first | rfl | cases h) rfl hst (k_Gr_placeOf g) (ok_Gr_placeOf g l hst) ?_
  rintro as f Q X ⟨O, ad, sh, V, L, o, k, rfl, hM, hk, hp, hq⟩
  refine ⟨[some (.ref (ad o)), some (.int k), none], rfl, Nat.le_of_ble_eq_true rfl, fun B run => ?_⟩
  obtain ⟨⟨n, hn, e⟩, hN⟩ := hp
  rw [gpX, e, nn_nI (by omega)] at hq
  have loop : ∀ m i, i + m = n → gpl (V (o + 1)) k n 0 = gpl (V (o + 1)) k m i → ∀ f, CR g O f ad sh V L → B 2 [some (.ref (ad o)), some (.int k), some (.int (nI i))] [] f 0 0 := by
    intro m
    induction m with
    | zero =>
      intro i e9 h f hM
      rw [Nat.add_zero] at e9
      subst e9
      rw [gpl] at h
      rw [h] at hq
      repeat (first | (refine hq _ ?_; exact hM) | (refine hx _ ?_; exact hM) | (refine i_Gr_cell_ hM ?_ ?_ fun f hM => ?_; (focus with_reducible assumption); (focus ((repeat' (first | assumption | omega | apply And.intro | rfl)); done))) | (refine run _ _ (i_Gr_placeOf g) [(), ()] rfl (is_Gr_placeOf g) _ _ _ _ _ ?_; (try simp only [Option.toList_some, Option.toList_none, List.cons_append, List.nil_append, List.append_nil]); simp -dsimp (disch := omega) only [e, Int32.le_refl, thr_n, wdC_n, wrC_n, tchC_n, wpF_0, c2_n, ↓e_callX, ↓e_callX0, ↓e_acpy, cR_s, cR_n, ↓hobj_c (hM.o5 hk), ↓hAI_c (hM.ai (kd_5_1 hk)), c2_s, c2_n, eq_self, nI_dec, ixE, nI_4m, nI_16m, nI_10m, nI_2m, nI_add, nI_1, nI_p2, nI_p3, nI_pred, c3_n, c3_s, c3_i, upd_s, upd_n, rowU_n, rowU_ge, true_imp_iff, false_imp_iff, not_true_eq_false, not_false_eq_true, b2i_t, b2i_f, i32_10, i32_00, i32_11, ite_true_I, false_and, and_false, true_and, and_true, or_true, true_or, false_or, or_false, w_Gr_placeOf_0, w_Gr_placeOf_2, w_Gr_placeOf_16, w_Gr_placeOf_26, ↓b_Gr_placeOf_0, ↓b_Gr_placeOf_2, ↓b_Gr_placeOf_16, ↓b_Gr_placeOf_26, ↓wpL_n, ↓wpL_c, ↓e_iadd, ↓e_isub, ↓e_imul, ↓e_iand, ↓e_ior, ↓e_ixor, ↓e_ishl, ↓e_ishr, ↓e_iushr, ↓e_idiv, ↓e_irem, ↓e_ineg, ↓e_ladd, ↓e_lcmp, ↓e_i2l, ↓e_i2c, ↓e_i2d, ↓e_i2f, ↓e_l2f, ↓e_f2d, ↓e_fdiv, ↓e_ddiv, ↓e_dcmp_l, ↓e_fcmp_l, ↓e_dcmp_g, ↓e_fcmp_g, ↓e_push, ↓e_iload, ↓e_fload, ↓e_dload, ↓e_aload, ↓e_istore, ↓e_fstore, ↓e_astore, ↓e_iinc, ↓e_ifeq, ↓e_iceq, ↓e_ifne, ↓e_icne, ↓e_iflt, ↓e_iclt, ↓e_ifge, ↓e_icge, ↓e_ifgt, ↓e_icgt, ↓e_ifle, ↓e_icle, ↓e_goto, ↓e_dup, ↓e_pop, ↓e_dup_x1, ↓e_dup2, ↓e_getf, ↓e_putI, ↓e_putJ, ↓e_putC, ↓e_putR, ↓e_iald, ↓e_zald, ↓e_cald, ↓e_lald, ↓e_dald, ↓e_iast, ↓e_zast, ↓e_cast, ↓e_last, ↓e_dast, ↓e_aald, ↓e_alen, ↓e_throw, ↓e_iret, ↓e_zret, ↓e_cret, ↓e_aret, ↓e_lret, ↓e_fret, ↓e_dret, ↓e_vret, ↓e_new, ↓e_newarr, ↓e_pop1, ↓e_siald, ↓e_salen, ↓e_call, ↓e_callV, ↓e_callI, ↓e_call0, ↓e_callR, PI_e, PFl_e, PD_e, PR_e, PO_e, PHd_e, PA_e, PA_n, IX_e, IX_0, reduceIte, lget, lset, lclr, fget, ctake, cdrop, c1, Nat.reduceAdd, List.reverse_cons, List.reverse_nil, List.nil_append, List.cons_append, Option.toList_some, Option.toList_none, List.length_cons, List.length_nil, true_and, and_true, true_or, or_true, Nat.reduceLeDiff, Nat.reduceLT, Nat.zero_le, List.append_nil]) | refine ⟨_, rfl, by omega, by omega, ?_⟩ | (refine ⟨0, 0, rfl, rfl, ?_⟩) | (refine ⟨1, 6, rfl, rfl, ?_⟩) | (refine ⟨2, 12, rfl, rfl, ?_⟩) | (refine And.intro ?_ ?_; focus (first | exact b2i_01 _ | assumption | decide | (simp; done))))
    | succ m ih =>
      intro i e9 h f hM
      have hi : ¬ nI n ≤ nI i := nI_ge (by omega) (by omega)
      have ih := ih (i + 1) (by omega)
      have hce : gCe sh V o i 0 = V (o + 1) (6 * i) := gCe_lt (by omega)
      have hi9 : i < 10000 := by omega
      rw [gpl] at h
      by_cases h1 : V (o + 1) (6 * i) < k
      · rw [if_pos h1] at h
        have ih := ih h
        clear hq
        have h1 : ¬ k ≤ V (o + 1) (6 * i) := Int32.not_le.mpr h1
        repeat (first | (refine hq _ ?_; exact hM) | (refine hx _ ?_; exact hM) | exact ih _ hM | (refine i_Gr_cell_ (w := 0) hM hk ⟨hi9, by omega, hN⟩ fun f hM => ?_) | (refine i_Gr_cell_ hM ?_ ?_ fun f hM => ?_; (focus with_reducible assumption); (focus ((repeat' (first | assumption | omega | apply And.intro | rfl)); done))) | (refine run _ _ (i_Gr_placeOf g) [(), ()] rfl (is_Gr_placeOf g) _ _ _ _ _ ?_; (try simp only [Option.toList_some, Option.toList_none, List.cons_append, List.nil_append, List.append_nil]); simp -dsimp (disch := omega) only [e, hi, hce, h1, thr_n, wdC_n, wrC_n, tchC_n, wpF_0, c2_n, ↓e_callX, ↓e_callX0, ↓e_acpy, cR_s, cR_n, ↓hobj_c (hM.o5 hk), ↓hAI_c (hM.ai (kd_5_1 hk)), c2_s, c2_n, eq_self, nI_dec, ixE, nI_4m, nI_16m, nI_10m, nI_2m, nI_add, nI_1, nI_p2, nI_p3, nI_pred, c3_n, c3_s, c3_i, upd_s, upd_n, rowU_n, rowU_ge, true_imp_iff, false_imp_iff, not_true_eq_false, not_false_eq_true, b2i_t, b2i_f, i32_10, i32_00, i32_11, ite_true_I, false_and, and_false, true_and, and_true, or_true, true_or, false_or, or_false, w_Gr_placeOf_0, w_Gr_placeOf_2, w_Gr_placeOf_16, w_Gr_placeOf_26, ↓b_Gr_placeOf_0, ↓b_Gr_placeOf_2, ↓b_Gr_placeOf_16, ↓b_Gr_placeOf_26, ↓wpL_n, ↓wpL_c, ↓e_iadd, ↓e_isub, ↓e_imul, ↓e_iand, ↓e_ior, ↓e_ixor, ↓e_ishl, ↓e_ishr, ↓e_iushr, ↓e_idiv, ↓e_irem, ↓e_ineg, ↓e_ladd, ↓e_lcmp, ↓e_i2l, ↓e_i2c, ↓e_i2d, ↓e_i2f, ↓e_l2f, ↓e_f2d, ↓e_fdiv, ↓e_ddiv, ↓e_dcmp_l, ↓e_fcmp_l, ↓e_dcmp_g, ↓e_fcmp_g, ↓e_push, ↓e_iload, ↓e_fload, ↓e_dload, ↓e_aload, ↓e_istore, ↓e_fstore, ↓e_astore, ↓e_iinc, ↓e_ifeq, ↓e_iceq, ↓e_ifne, ↓e_icne, ↓e_iflt, ↓e_iclt, ↓e_ifge, ↓e_icge, ↓e_ifgt, ↓e_icgt, ↓e_ifle, ↓e_icle, ↓e_goto, ↓e_dup, ↓e_pop, ↓e_dup_x1, ↓e_dup2, ↓e_getf, ↓e_putI, ↓e_putJ, ↓e_putC, ↓e_putR, ↓e_iald, ↓e_zald, ↓e_cald, ↓e_lald, ↓e_dald, ↓e_iast, ↓e_zast, ↓e_cast, ↓e_last, ↓e_dast, ↓e_aald, ↓e_alen, ↓e_throw, ↓e_iret, ↓e_zret, ↓e_cret, ↓e_aret, ↓e_lret, ↓e_fret, ↓e_dret, ↓e_vret, ↓e_new, ↓e_newarr, ↓e_pop1, ↓e_siald, ↓e_salen, ↓e_call, ↓e_callV, ↓e_callI, ↓e_call0, ↓e_callR, PI_e, PFl_e, PD_e, PR_e, PO_e, PHd_e, PA_e, PA_n, IX_e, IX_0, reduceIte, lget, lset, lclr, fget, ctake, cdrop, c1, Nat.reduceAdd, List.reverse_cons, List.reverse_nil, List.nil_append, List.cons_append, Option.toList_some, Option.toList_none, List.length_cons, List.length_nil, true_and, and_true, true_or, or_true, Nat.reduceLeDiff, Nat.reduceLT, Nat.zero_le, List.append_nil]) | refine ⟨_, rfl, by omega, by omega, ?_⟩ | (refine ⟨0, 0, rfl, rfl, ?_⟩) | (refine ⟨1, 6, rfl, rfl, ?_⟩) | (refine ⟨2, 12, rfl, rfl, ?_⟩) | (refine And.intro ?_ ?_; focus (first | exact b2i_01 _ | assumption | decide | (simp; done))))
      · rw [if_neg h1] at h
        rw [h] at hq
        have h1 : k ≤ V (o + 1) (6 * i) := Int32.not_lt.mp h1
        repeat (first | (refine hq _ ?_; exact hM) | (refine hx _ ?_; exact hM) | (refine i_Gr_cell_ (w := 0) hM hk ⟨hi9, by omega, hN⟩ fun f hM => ?_) | (refine i_Gr_cell_ hM ?_ ?_ fun f hM => ?_; (focus with_reducible assumption); (focus ((repeat' (first | assumption | omega | apply And.intro | rfl)); done))) | (refine run _ _ (i_Gr_placeOf g) [(), ()] rfl (is_Gr_placeOf g) _ _ _ _ _ ?_; (try simp only [Option.toList_some, Option.toList_none, List.cons_append, List.nil_append, List.append_nil]); simp -dsimp (disch := omega) only [e, hi, hce, h1, thr_n, wdC_n, wrC_n, tchC_n, wpF_0, c2_n, ↓e_callX, ↓e_callX0, ↓e_acpy, cR_s, cR_n, ↓hobj_c (hM.o5 hk), ↓hAI_c (hM.ai (kd_5_1 hk)), c2_s, c2_n, eq_self, nI_dec, ixE, nI_4m, nI_16m, nI_10m, nI_2m, nI_add, nI_1, nI_p2, nI_p3, nI_pred, c3_n, c3_s, c3_i, upd_s, upd_n, rowU_n, rowU_ge, true_imp_iff, false_imp_iff, not_true_eq_false, not_false_eq_true, b2i_t, b2i_f, i32_10, i32_00, i32_11, ite_true_I, false_and, and_false, true_and, and_true, or_true, true_or, false_or, or_false, w_Gr_placeOf_0, w_Gr_placeOf_2, w_Gr_placeOf_16, w_Gr_placeOf_26, ↓b_Gr_placeOf_0, ↓b_Gr_placeOf_2, ↓b_Gr_placeOf_16, ↓b_Gr_placeOf_26, ↓wpL_n, ↓wpL_c, ↓e_iadd, ↓e_isub, ↓e_imul, ↓e_iand, ↓e_ior, ↓e_ixor, ↓e_ishl, ↓e_ishr, ↓e_iushr, ↓e_idiv, ↓e_irem, ↓e_ineg, ↓e_ladd, ↓e_lcmp, ↓e_i2l, ↓e_i2c, ↓e_i2d, ↓e_i2f, ↓e_l2f, ↓e_f2d, ↓e_fdiv, ↓e_ddiv, ↓e_dcmp_l, ↓e_fcmp_l, ↓e_dcmp_g, ↓e_fcmp_g, ↓e_push, ↓e_iload, ↓e_fload, ↓e_dload, ↓e_aload, ↓e_istore, ↓e_fstore, ↓e_astore, ↓e_iinc, ↓e_ifeq, ↓e_iceq, ↓e_ifne, ↓e_icne, ↓e_iflt, ↓e_iclt, ↓e_ifge, ↓e_icge, ↓e_ifgt, ↓e_icgt, ↓e_ifle, ↓e_icle, ↓e_goto, ↓e_dup, ↓e_pop, ↓e_dup_x1, ↓e_dup2, ↓e_getf, ↓e_putI, ↓e_putJ, ↓e_putC, ↓e_putR, ↓e_iald, ↓e_zald, ↓e_cald, ↓e_lald, ↓e_dald, ↓e_iast, ↓e_zast, ↓e_cast, ↓e_last, ↓e_dast, ↓e_aald, ↓e_alen, ↓e_throw, ↓e_iret, ↓e_zret, ↓e_cret, ↓e_aret, ↓e_lret, ↓e_fret, ↓e_dret, ↓e_vret, ↓e_new, ↓e_newarr, ↓e_pop1, ↓e_siald, ↓e_salen, ↓e_call, ↓e_callV, ↓e_callI, ↓e_call0, ↓e_callR, PI_e, PFl_e, PD_e, PR_e, PO_e, PHd_e, PA_e, PA_n, IX_e, IX_0, reduceIte, lget, lset, lclr, fget, ctake, cdrop, c1, Nat.reduceAdd, List.reverse_cons, List.reverse_nil, List.nil_append, List.cons_append, Option.toList_some, Option.toList_none, List.length_cons, List.length_nil, true_and, and_true, true_or, or_true, Nat.reduceLeDiff, Nat.reduceLT, Nat.zero_le, List.append_nil]) | refine ⟨_, rfl, by omega, by omega, ?_⟩ | (refine ⟨0, 0, rfl, rfl, ?_⟩) | (refine ⟨1, 6, rfl, rfl, ?_⟩) | (refine ⟨2, 12, rfl, rfl, ?_⟩) | (refine And.intro ?_ ?_; focus (first | exact b2i_01 _ | assumption | decide | (simp; done))))
  repeat (first | (refine hq _ ?_; exact hM) | (refine hx _ ?_; exact hM) | exact loop n 0 (by omega) rfl _ hM | (refine i_Gr_cell_ hM ?_ ?_ fun f hM => ?_; (focus with_reducible assumption); (focus ((repeat' (first | assumption | omega | apply And.intro | rfl)); done))) | (refine run _ _ (i_Gr_placeOf g) [(), ()] rfl (is_Gr_placeOf g) _ _ _ _ _ ?_; (try simp only [Option.toList_some, Option.toList_none, List.cons_append, List.nil_append, List.append_nil]); simp -dsimp (disch := omega) only [thr_n, wdC_n, wrC_n, tchC_n, wpF_0, c2_n, ↓e_callX, ↓e_callX0, ↓e_acpy, cR_s, cR_n, ↓hobj_c (hM.o5 hk), ↓hAI_c (hM.ai (kd_5_1 hk)), c2_s, c2_n, eq_self, nI_dec, ixE, nI_4m, nI_16m, nI_10m, nI_2m, nI_add, nI_1, nI_p2, nI_p3, nI_pred, c3_n, c3_s, c3_i, upd_s, upd_n, rowU_n, rowU_ge, true_imp_iff, false_imp_iff, not_true_eq_false, not_false_eq_true, b2i_t, b2i_f, i32_10, i32_00, i32_11, ite_true_I, false_and, and_false, true_and, and_true, or_true, true_or, false_or, or_false, w_Gr_placeOf_0, w_Gr_placeOf_2, w_Gr_placeOf_16, w_Gr_placeOf_26, ↓b_Gr_placeOf_0, ↓b_Gr_placeOf_2, ↓b_Gr_placeOf_16, ↓b_Gr_placeOf_26, ↓wpL_n, ↓wpL_c, ↓e_iadd, ↓e_isub, ↓e_imul, ↓e_iand, ↓e_ior, ↓e_ixor, ↓e_ishl, ↓e_ishr, ↓e_iushr, ↓e_idiv, ↓e_irem, ↓e_ineg, ↓e_ladd, ↓e_lcmp, ↓e_i2l, ↓e_i2c, ↓e_i2d, ↓e_i2f, ↓e_l2f, ↓e_f2d, ↓e_fdiv, ↓e_ddiv, ↓e_dcmp_l, ↓e_fcmp_l, ↓e_dcmp_g, ↓e_fcmp_g, ↓e_push, ↓e_iload, ↓e_fload, ↓e_dload, ↓e_aload, ↓e_istore, ↓e_fstore, ↓e_astore, ↓e_iinc, ↓e_ifeq, ↓e_iceq, ↓e_ifne, ↓e_icne, ↓e_iflt, ↓e_iclt, ↓e_ifge, ↓e_icge, ↓e_ifgt, ↓e_icgt, ↓e_ifle, ↓e_icle, ↓e_goto, ↓e_dup, ↓e_pop, ↓e_dup_x1, ↓e_dup2, ↓e_getf, ↓e_putI, ↓e_putJ, ↓e_putC, ↓e_putR, ↓e_iald, ↓e_zald, ↓e_cald, ↓e_lald, ↓e_dald, ↓e_iast, ↓e_zast, ↓e_cast, ↓e_last, ↓e_dast, ↓e_aald, ↓e_alen, ↓e_throw, ↓e_iret, ↓e_zret, ↓e_cret, ↓e_aret, ↓e_lret, ↓e_fret, ↓e_dret, ↓e_vret, ↓e_new, ↓e_newarr, ↓e_pop1, ↓e_siald, ↓e_salen, ↓e_call, ↓e_callV, ↓e_callI, ↓e_call0, ↓e_callR, PI_e, PFl_e, PD_e, PR_e, PO_e, PHd_e, PA_e, PA_n, IX_e, IX_0, reduceIte, lget, lset, lclr, fget, ctake, cdrop, c1, Nat.reduceAdd, List.reverse_cons, List.reverse_nil, List.nil_append, List.cons_append, Option.toList_some, Option.toList_none, List.length_cons, List.length_nil, true_and, and_true, true_or, or_true, Nat.reduceLeDiff, Nat.reduceLT, Nat.zero_le, List.append_nil]) | refine ⟨_, rfl, by omega, by omega, ?_⟩ | (refine ⟨0, 0, rfl, rfl, ?_⟩) | (refine ⟨1, 6, rfl, rfl, ?_⟩) | (refine ⟨2, 12, rfl, rfl, ?_⟩) | (refine And.intro ?_ ?_; focus (first | exact b2i_01 _ | assumption | decide | (simp; done))))
def gHas (V : CV) (o : Nat) (k : Int32) : Bool := decide (gpX V o k < nn (V o 1)) && decide (V (o + 1) (6 * gpX V o k) = k)
def T_Gr_hasKey (g : GG) : Spec2 := fun as f Q X => ∃ (O : AH) (ad : Nat → Nat) (sh : Sh) (V : CV) (L : Int64) (o : Nat) (k : Int32), as = [.ref (ad o), .int k] ∧ CR g O f ad sh V L ∧ kd sh o = 5 ∧ (GrOk sh V o) ∧ ∀ f', CR g O f' ad sh (V) (L) → Q (some (.int (b2i (gHas V o k)))) f'
theorem i_Gr_hasKey_ {g : GG} {O : AH} {ad : Nat → Nat} {sh : Sh} {V : CV} {L : Int64} {o : Nat} {k : Int32} {f : AH} {Q : Option Value → AH → Prop} {X : String → AH → Prop} (hM : CR g O f ad sh V L) (hk : kd sh o = 5) (hp : GrOk sh V o) (h : ∀ f', CR g O f' ad sh (V) (L) → Q (some (.int (b2i (gHas V o k)))) f') : T_Gr_hasKey g [.ref (ad o), .int k] f Q X := ⟨O, ad, sh, V, L, o, k, rfl, hM, hk, hp, h⟩
theorem j_Gr_hasKey_ {g : GG} {O : AH} {ad : Nat → Nat} {sh : Sh} {V : CV} {L : Int64} {o : Nat} {k : Int32} {f : AH} {Q : Option Value → AH → Prop} {X : String → AH → Prop} (hM : CR g O f ad sh V L) (hk : kd sh o = 5) (hp : GrOk sh V o) {b : Bool} (hb : (gHas V o k) = b) (h : ∀ f', CR g O f' ad sh (V) (L) → Q (some (.int (b2i b))) f') : T_Gr_hasKey g [.ref (ad o), .int k] f Q X := by subst hb; exact i_Gr_hasKey_ hM hk hp h
abbrev m_Gr_hasKey (g : GG) (l : Launch) : MI := (RX4, cX4_hasKey, 3, (some .boolean), [], false, 3, g, l)
def b_Gr_hasKey_0 (g : GG) : Blk := [(1, o_aload 0), (1, o_iload 1), (3, o_callR (o_call0 (T_Gr_placeOf g) 2) 5 2)]
def b_Gr_hasKey_5 (g : GG) : Blk := [(1, o_istore 2), (1, o_iload 2), (1, o_aload 0), (3, o_getf 5 1), (3, o_icge 28), (1, o_aload 0), (1, o_iload 2), (1, o_push (.int 0)), (3, o_callR (o_call0 (T_Gr_cell g) 3) 5 3)]
def b_Gr_hasKey_20 (g : GG) : Blk := [(1, o_iload 1), (3, o_icne 28), (1, o_push (.int 1)), (3, o_goto 29)]
def b_Gr_hasKey_28 (g : GG) : Blk := [(1, o_push (.int 0))]
def b_Gr_hasKey_29 (g : GG) : Blk := [(1, o_zret)]
set_option maxRecDepth 8000 in
theorem okb_Gr_hasKey_0 (g : GG) (l : Launch) (hst : l.stackTraces = false) : BlkOk (m_Gr_hasKey g l) 0 (b_Gr_hasKey_0 g) := 
  ⟨ok_aload_n (by decide +kernel : decode cX4_hasKey 0 = .ok (.aload_n 0, 1)) rfl,
  ⟨ok_iload_n (by decide +kernel : decode cX4_hasKey 1 = .ok (.iload_n 1, 1)) rfl,
  ⟨(ok_callV (k := 1) cls_5 (s_Gr_placeOf g l hst) (show 2 < 3 from by decide) (Nat.le_of_ble_eq_true rfl) rfl rfl tw_348 tw_350 ts_7 tw_8 tw_351 ⟨by decide, by decide, by decide⟩ (by decide +kernel : decode cX4_hasKey 2 = .ok (.invokevirtual 19, 3))).mono callR0_of, trivial⟩⟩⟩
set_option maxRecDepth 8000 in
theorem okb_Gr_hasKey_5 (g : GG) (l : Launch) (hst : l.stackTraces = false) : BlkOk (m_Gr_hasKey g l) 5 (b_Gr_hasKey_5 g) := 
  ⟨ok_istore_n rfl (Nat.le_of_ble_eq_true rfl) (by decide +kernel : decode cX4_hasKey 5 = .ok (.istore_n 2, 1)),
  ⟨ok_iload_n (by decide +kernel : decode cX4_hasKey 6 = .ok (.iload_n 2, 1)) rfl,
  ⟨ok_aload_n (by decide +kernel : decode cX4_hasKey 7 = .ok (.aload_n 0, 1)) rfl,
  ⟨ok_getf cls_5 (Nat.le_of_ble_eq_true rfl) tw_137 rfl (by decide +kernel : decode cX4_hasKey 8 = .ok (.getfield 15, 3)),
  ⟨ok_icge (by decide) (by decide +kernel : decode cX4_hasKey 11 = .ok (.if_icmp .ge 17, 3)),
  ⟨ok_aload_n (by decide +kernel : decode cX4_hasKey 14 = .ok (.aload_n 0, 1)) rfl,
  ⟨ok_iload_n (by decide +kernel : decode cX4_hasKey 15 = .ok (.iload_n 2, 1)) rfl,
  ⟨ok_iconst (by decide) (by decide +kernel : decode cX4_hasKey 16 = .ok (.iconst 0, 1)),
  ⟨(ok_callV (k := 2) cls_5 (s_Gr_cell g l hst) (show 1 < 3 from by decide) (Nat.le_of_ble_eq_true rfl) rfl rfl tw_352 tw_353 tw_354 tw_8 tw_355 ⟨by decide, by decide, by decide⟩ (by decide +kernel : decode cX4_hasKey 17 = .ok (.invokevirtual 23, 3))).mono callR0_of, trivial⟩⟩⟩⟩⟩⟩⟩⟩⟩
set_option maxRecDepth 8000 in
theorem okb_Gr_hasKey_20 (g : GG) (l : Launch) (hst : l.stackTraces = false) : BlkOk (m_Gr_hasKey g l) 20 (b_Gr_hasKey_20 g) := 
  ⟨ok_iload_n (by decide +kernel : decode cX4_hasKey 20 = .ok (.iload_n 1, 1)) rfl,
  ⟨ok_icne (by decide) (by decide +kernel : decode cX4_hasKey 21 = .ok (.if_icmp .ne 7, 3)),
  ⟨ok_iconst (by decide) (by decide +kernel : decode cX4_hasKey 24 = .ok (.iconst 1, 1)),
  ⟨ok_goto (by decide) (by decide +kernel : decode cX4_hasKey 25 = .ok (.goto 4, 3)), trivial⟩⟩⟩⟩
set_option maxRecDepth 8000 in
theorem okb_Gr_hasKey_28 (g : GG) (l : Launch) (hst : l.stackTraces = false) : BlkOk (m_Gr_hasKey g l) 28 (b_Gr_hasKey_28 g) := 
  ⟨ok_iconst (by decide) (by decide +kernel : decode cX4_hasKey 28 = .ok (.iconst 0, 1)), trivial⟩
set_option maxRecDepth 8000 in
theorem okb_Gr_hasKey_29 (g : GG) (l : Launch) (hst : l.stackTraces = false) : BlkOk (m_Gr_hasKey g l) 29 (b_Gr_hasKey_29 g) := 
  ⟨ok_zret rfl (by decide +kernel : decode cX4_hasKey 29 = .ok (.ireturn, 1)), trivial⟩
def k_Gr_hasKey (g : GG) : List (Nat × Blk) := [(0, b_Gr_hasKey_0 g), (5, b_Gr_hasKey_5 g), (20, b_Gr_hasKey_20 g), (28, b_Gr_hasKey_28 g), (29, b_Gr_hasKey_29 g)]
theorem ok_Gr_hasKey (g : GG) (l : Launch) (hst : l.stackTraces = false) : ∀ b ∈ k_Gr_hasKey g, BlkOk (m_Gr_hasKey g l) b.1 b.2 := List.forall_mem_cons.mpr ⟨okb_Gr_hasKey_0 g l hst, List.forall_mem_cons.mpr ⟨okb_Gr_hasKey_5 g l hst, List.forall_mem_cons.mpr ⟨okb_Gr_hasKey_20 g l hst, List.forall_mem_cons.mpr ⟨okb_Gr_hasKey_28 g l hst, List.forall_mem_cons.mpr ⟨okb_Gr_hasKey_29 g l hst, fun _ h => by cases h⟩⟩⟩⟩⟩
def i_Gr_hasKey (g : GG) : List (Nat × Blk) := [(28, b_Gr_hasKey_28 g), (29, b_Gr_hasKey_29 g)]
theorem is_Gr_hasKey (g : GG) : ∀ x ∈ i_Gr_hasKey g, x ∈ k_Gr_hasKey g := sub_at [3, 4] rfl
theorem w_Gr_hasKey_0 (g : GG) (u : Unit) (n : List Unit) (B : Bx) (Q : Option Value → AH → Prop) (X : String → AH → Prop) (lv : LV) (st : List Value) (f : AH) (bc bs : Nat) : wpF (i_Gr_hasKey g) (u :: n) B Q X 0 lv st f bc bs = B 0 lv st f bc bs := (rfl)
theorem w_Gr_hasKey_5 (g : GG) (u : Unit) (n : List Unit) (B : Bx) (Q : Option Value → AH → Prop) (X : String → AH → Prop) (lv : LV) (st : List Value) (f : AH) (bc bs : Nat) : wpF (i_Gr_hasKey g) (u :: n) B Q X 5 lv st f bc bs = B 5 lv st f bc bs := (rfl)
theorem w_Gr_hasKey_20 (g : GG) (u : Unit) (n : List Unit) (B : Bx) (Q : Option Value → AH → Prop) (X : String → AH → Prop) (lv : LV) (st : List Value) (f : AH) (bc bs : Nat) : wpF (i_Gr_hasKey g) (u :: n) B Q X 20 lv st f bc bs = B 20 lv st f bc bs := (rfl)
theorem w_Gr_hasKey_28 (g : GG) (u : Unit) (n : List Unit) (B : Bx) (Q : Option Value → AH → Prop) (X : String → AH → Prop) (lv : LV) (st : List Value) (f : AH) (bc bs : Nat) : wpF (i_Gr_hasKey g) (u :: n) B Q X 28 lv st f bc bs = wpL (b_Gr_hasKey_28 g) 28 lv st f bc bs (wpF (i_Gr_hasKey g) n B Q X) Q X := (rfl)
theorem w_Gr_hasKey_29 (g : GG) (u : Unit) (n : List Unit) (B : Bx) (Q : Option Value → AH → Prop) (X : String → AH → Prop) (lv : LV) (st : List Value) (f : AH) (bc bs : Nat) : wpF (i_Gr_hasKey g) (u :: n) B Q X 29 lv st f bc bs = wpL (b_Gr_hasKey_29 g) 29 lv st f bc bs (wpF (i_Gr_hasKey g) n B Q X) Q X := (rfl)
set_option maxRecDepth 4000 in
set_option maxHeartbeats 4000000 in
theorem s_Gr_hasKey (g : GG) (l : Launch) (hst : l.stackTraces = false) : Snd yX4_hasKey (m_Gr_hasKey g l) 0 0 (T_Gr_hasKey g) := by
  refine snd_of (plainFor_of_name (by decide)) rfl (fun h => by first | rfl | cases h) rfl hst (k_Gr_hasKey g) (ok_Gr_hasKey g l hst) ?_
  rintro as f Q X ⟨O, ad, sh, V, L, o, k, rfl, hM, hk, hp, hq⟩
  refine ⟨[some (.ref (ad o)), some (.int k), none], rfl, Nat.le_of_ble_eq_true rfl, fun B run => ?_⟩
  have hp0 := hp
  obtain ⟨⟨n, hn, e⟩, hN⟩ := hp
  have hle := (gpl_le (V (o + 1)) k n 0).2
  rw [gHas, e, nn_nI (by omega)] at hq
  have hx : gpX V o k = gpl (V (o + 1)) k n 0 := by rw [gpX, e, nn_nI (by omega)]
  rw [← hx] at hle
  clear hx
  obtain ⟨y, hy⟩ : ∃ y, y = gpX V o k := ⟨_, rfl⟩
  rw [← hy] at hle hq
  have hy' := hy.symm
  have hy9 : y < 10000 := by omega
  rcases Nat.lt_or_ge y n with h1 | h1
  · have h2 : ¬ nI n ≤ nI y := nI_ge h1 (by omega)
    have hce : gCe sh V o y 0 = V (o + 1) (6 * y) := gCe_lt (by omega)
    by_cases h3 : V (o + 1) (6 * y) = k
    · simp only [h1, eq_true h3, decide_true, Bool.and_self, b2i_t] at hq
      repeat (first | (refine hq _ ?_; exact hM) | (refine hx _ ?_; exact hM) | (refine i_Gr_placeOf_ hM hk hp0 fun f hM => ?_; rw [hy']) | (refine i_Gr_cell_ (w := 0) hM hk ⟨hy9, by omega, hN⟩ fun f hM => ?_) | (refine i_Gr_placeOf_ hM ?_ ?_ fun f hM => ?_; (focus with_reducible assumption); (focus ((repeat' (first | assumption | omega | apply And.intro | rfl)); done))) | (refine i_Gr_cell_ hM ?_ ?_ fun f hM => ?_; (focus with_reducible assumption); (focus ((repeat' (first | assumption | omega | apply And.intro | rfl)); done))) | (refine run _ _ (i_Gr_hasKey g) [(), (), ()] rfl (is_Gr_hasKey g) _ _ _ _ _ ?_; (try simp only [Option.toList_some, Option.toList_none, List.cons_append, List.nil_append, List.append_nil]); simp -dsimp (disch := omega) only [e, hy', h2, hce, eq_true h3, thr_n, wdC_n, wrC_n, tchC_n, wpF_0, c2_n, ↓e_callX, ↓e_callX0, ↓e_acpy, cR_s, cR_n, ↓hobj_c (hM.o5 hk), ↓hAI_c (hM.ai (kd_5_1 hk)), c2_s, c2_n, eq_self, nI_dec, ixE, nI_4m, nI_16m, nI_10m, nI_2m, nI_add, nI_1, nI_p2, nI_p3, nI_pred, c3_n, c3_s, c3_i, upd_s, upd_n, rowU_n, rowU_ge, true_imp_iff, false_imp_iff, not_true_eq_false, not_false_eq_true, b2i_t, b2i_f, i32_10, i32_00, i32_11, ite_true_I, false_and, and_false, true_and, and_true, or_true, true_or, false_or, or_false, w_Gr_hasKey_0, w_Gr_hasKey_5, w_Gr_hasKey_20, w_Gr_hasKey_28, w_Gr_hasKey_29, ↓b_Gr_hasKey_0, ↓b_Gr_hasKey_5, ↓b_Gr_hasKey_20, ↓b_Gr_hasKey_28, ↓b_Gr_hasKey_29, ↓wpL_n, ↓wpL_c, ↓e_iadd, ↓e_isub, ↓e_imul, ↓e_iand, ↓e_ior, ↓e_ixor, ↓e_ishl, ↓e_ishr, ↓e_iushr, ↓e_idiv, ↓e_irem, ↓e_ineg, ↓e_ladd, ↓e_lcmp, ↓e_i2l, ↓e_i2c, ↓e_i2d, ↓e_i2f, ↓e_l2f, ↓e_f2d, ↓e_fdiv, ↓e_ddiv, ↓e_dcmp_l, ↓e_fcmp_l, ↓e_dcmp_g, ↓e_fcmp_g, ↓e_push, ↓e_iload, ↓e_fload, ↓e_dload, ↓e_aload, ↓e_istore, ↓e_fstore, ↓e_astore, ↓e_iinc, ↓e_ifeq, ↓e_iceq, ↓e_ifne, ↓e_icne, ↓e_iflt, ↓e_iclt, ↓e_ifge, ↓e_icge, ↓e_ifgt, ↓e_icgt, ↓e_ifle, ↓e_icle, ↓e_goto, ↓e_dup, ↓e_pop, ↓e_dup_x1, ↓e_dup2, ↓e_getf, ↓e_putI, ↓e_putJ, ↓e_putC, ↓e_putR, ↓e_iald, ↓e_zald, ↓e_cald, ↓e_lald, ↓e_dald, ↓e_iast, ↓e_zast, ↓e_cast, ↓e_last, ↓e_dast, ↓e_aald, ↓e_alen, ↓e_throw, ↓e_iret, ↓e_zret, ↓e_cret, ↓e_aret, ↓e_lret, ↓e_fret, ↓e_dret, ↓e_vret, ↓e_new, ↓e_newarr, ↓e_pop1, ↓e_siald, ↓e_salen, ↓e_call, ↓e_callV, ↓e_callI, ↓e_call0, ↓e_callR, PI_e, PFl_e, PD_e, PR_e, PO_e, PHd_e, PA_e, PA_n, IX_e, IX_0, reduceIte, lget, lset, lclr, fget, ctake, cdrop, c1, Nat.reduceAdd, List.reverse_cons, List.reverse_nil, List.nil_append, List.cons_append, Option.toList_some, Option.toList_none, List.length_cons, List.length_nil, true_and, and_true, true_or, or_true, Nat.reduceLeDiff, Nat.reduceLT, Nat.zero_le, List.append_nil]) | refine ⟨_, rfl, by omega, by omega, ?_⟩ | (refine ⟨0, 0, rfl, rfl, ?_⟩) | (refine ⟨1, 6, rfl, rfl, ?_⟩) | (refine ⟨2, 12, rfl, rfl, ?_⟩) | (refine And.intro ?_ ?_; focus (first | exact b2i_01 _ | assumption | decide | (simp; done))))
    · simp only [h1, h3, decide_true, decide_false, Bool.and_false, b2i_f] at hq
      repeat (first | (refine hq _ ?_; exact hM) | (refine hx _ ?_; exact hM) | (refine i_Gr_placeOf_ hM hk hp0 fun f hM => ?_; rw [hy']) | (refine i_Gr_cell_ (w := 0) hM hk ⟨hy9, by omega, hN⟩ fun f hM => ?_) | (refine i_Gr_placeOf_ hM ?_ ?_ fun f hM => ?_; (focus with_reducible assumption); (focus ((repeat' (first | assumption | omega | apply And.intro | rfl)); done))) | (refine i_Gr_cell_ hM ?_ ?_ fun f hM => ?_; (focus with_reducible assumption); (focus ((repeat' (first | assumption | omega | apply And.intro | rfl)); done))) | (refine run _ _ (i_Gr_hasKey g) [(), (), ()] rfl (is_Gr_hasKey g) _ _ _ _ _ ?_; (try simp only [Option.toList_some, Option.toList_none, List.cons_append, List.nil_append, List.append_nil]); simp -dsimp (disch := omega) only [e, hy', h2, hce, h3, thr_n, wdC_n, wrC_n, tchC_n, wpF_0, c2_n, ↓e_callX, ↓e_callX0, ↓e_acpy, cR_s, cR_n, ↓hobj_c (hM.o5 hk), ↓hAI_c (hM.ai (kd_5_1 hk)), c2_s, c2_n, eq_self, nI_dec, ixE, nI_4m, nI_16m, nI_10m, nI_2m, nI_add, nI_1, nI_p2, nI_p3, nI_pred, c3_n, c3_s, c3_i, upd_s, upd_n, rowU_n, rowU_ge, true_imp_iff, false_imp_iff, not_true_eq_false, not_false_eq_true, b2i_t, b2i_f, i32_10, i32_00, i32_11, ite_true_I, false_and, and_false, true_and, and_true, or_true, true_or, false_or, or_false, w_Gr_hasKey_0, w_Gr_hasKey_5, w_Gr_hasKey_20, w_Gr_hasKey_28, w_Gr_hasKey_29, ↓b_Gr_hasKey_0, ↓b_Gr_hasKey_5, ↓b_Gr_hasKey_20, ↓b_Gr_hasKey_28, ↓b_Gr_hasKey_29, ↓wpL_n, ↓wpL_c, ↓e_iadd, ↓e_isub, ↓e_imul, ↓e_iand, ↓e_ior, ↓e_ixor, ↓e_ishl, ↓e_ishr, ↓e_iushr, ↓e_idiv, ↓e_irem, ↓e_ineg, ↓e_ladd, ↓e_lcmp, ↓e_i2l, ↓e_i2c, ↓e_i2d, ↓e_i2f, ↓e_l2f, ↓e_f2d, ↓e_fdiv, ↓e_ddiv, ↓e_dcmp_l, ↓e_fcmp_l, ↓e_dcmp_g, ↓e_fcmp_g, ↓e_push, ↓e_iload, ↓e_fload, ↓e_dload, ↓e_aload, ↓e_istore, ↓e_fstore, ↓e_astore, ↓e_iinc, ↓e_ifeq, ↓e_iceq, ↓e_ifne, ↓e_icne, ↓e_iflt, ↓e_iclt, ↓e_ifge, ↓e_icge, ↓e_ifgt, ↓e_icgt, ↓e_ifle, ↓e_icle, ↓e_goto, ↓e_dup, ↓e_pop, ↓e_dup_x1, ↓e_dup2, ↓e_getf, ↓e_putI, ↓e_putJ, ↓e_putC, ↓e_putR, ↓e_iald, ↓e_zald, ↓e_cald, ↓e_lald, ↓e_dald, ↓e_iast, ↓e_zast, ↓e_cast, ↓e_last, ↓e_dast, ↓e_aald, ↓e_alen, ↓e_throw, ↓e_iret, ↓e_zret, ↓e_cret, ↓e_aret, ↓e_lret, ↓e_fret, ↓e_dret, ↓e_vret, ↓e_new, ↓e_newarr, ↓e_pop1, ↓e_siald, ↓e_salen, ↓e_call, ↓e_callV, ↓e_callI, ↓e_call0, ↓e_callR, PI_e, PFl_e, PD_e, PR_e, PO_e, PHd_e, PA_e, PA_n, IX_e, IX_0, reduceIte, lget, lset, lclr, fget, ctake, cdrop, c1, Nat.reduceAdd, List.reverse_cons, List.reverse_nil, List.nil_append, List.cons_append, Option.toList_some, Option.toList_none, List.length_cons, List.length_nil, true_and, and_true, true_or, or_true, Nat.reduceLeDiff, Nat.reduceLT, Nat.zero_le, List.append_nil]) | refine ⟨_, rfl, by omega, by omega, ?_⟩ | (refine ⟨0, 0, rfl, rfl, ?_⟩) | (refine ⟨1, 6, rfl, rfl, ?_⟩) | (refine ⟨2, 12, rfl, rfl, ?_⟩) | (refine And.intro ?_ ?_; focus (first | exact b2i_01 _ | assumption | decide | (simp; done))))
  · have h2 : nI n ≤ nI y := nI_le h1 (by omega)
    simp only [show ¬ y < n from Nat.not_lt.mpr h1, decide_false, Bool.false_and, b2i_f] at hq
    repeat (first | (refine hq _ ?_; exact hM) | (refine hx _ ?_; exact hM) | (refine i_Gr_placeOf_ hM hk hp0 fun f hM => ?_; rw [hy']) | (refine i_Gr_placeOf_ hM ?_ ?_ fun f hM => ?_; (focus with_reducible assumption); (focus ((repeat' (first | assumption | omega | apply And.intro | rfl)); done))) | (refine i_Gr_cell_ hM ?_ ?_ fun f hM => ?_; (focus with_reducible assumption); (focus ((repeat' (first | assumption | omega | apply And.intro | rfl)); done))) | (refine run _ _ (i_Gr_hasKey g) [(), (), ()] rfl (is_Gr_hasKey g) _ _ _ _ _ ?_; (try simp only [Option.toList_some, Option.toList_none, List.cons_append, List.nil_append, List.append_nil]); simp -dsimp (disch := omega) only [e, hy', h2, thr_n, wdC_n, wrC_n, tchC_n, wpF_0, c2_n, ↓e_callX, ↓e_callX0, ↓e_acpy, cR_s, cR_n, ↓hobj_c (hM.o5 hk), ↓hAI_c (hM.ai (kd_5_1 hk)), c2_s, c2_n, eq_self, nI_dec, ixE, nI_4m, nI_16m, nI_10m, nI_2m, nI_add, nI_1, nI_p2, nI_p3, nI_pred, c3_n, c3_s, c3_i, upd_s, upd_n, rowU_n, rowU_ge, true_imp_iff, false_imp_iff, not_true_eq_false, not_false_eq_true, b2i_t, b2i_f, i32_10, i32_00, i32_11, ite_true_I, false_and, and_false, true_and, and_true, or_true, true_or, false_or, or_false, w_Gr_hasKey_0, w_Gr_hasKey_5, w_Gr_hasKey_20, w_Gr_hasKey_28, w_Gr_hasKey_29, ↓b_Gr_hasKey_0, ↓b_Gr_hasKey_5, ↓b_Gr_hasKey_20, ↓b_Gr_hasKey_28, ↓b_Gr_hasKey_29, ↓wpL_n, ↓wpL_c, ↓e_iadd, ↓e_isub, ↓e_imul, ↓e_iand, ↓e_ior, ↓e_ixor, ↓e_ishl, ↓e_ishr, ↓e_iushr, ↓e_idiv, ↓e_irem, ↓e_ineg, ↓e_ladd, ↓e_lcmp, ↓e_i2l, ↓e_i2c, ↓e_i2d, ↓e_i2f, ↓e_l2f, ↓e_f2d, ↓e_fdiv, ↓e_ddiv, ↓e_dcmp_l, ↓e_fcmp_l, ↓e_dcmp_g, ↓e_fcmp_g, ↓e_push, ↓e_iload, ↓e_fload, ↓e_dload, ↓e_aload, ↓e_istore, ↓e_fstore, ↓e_astore, ↓e_iinc, ↓e_ifeq, ↓e_iceq, ↓e_ifne, ↓e_icne, ↓e_iflt, ↓e_iclt, ↓e_ifge, ↓e_icge, ↓e_ifgt, ↓e_icgt, ↓e_ifle, ↓e_icle, ↓e_goto, ↓e_dup, ↓e_pop, ↓e_dup_x1, ↓e_dup2, ↓e_getf, ↓e_putI, ↓e_putJ, ↓e_putC, ↓e_putR, ↓e_iald, ↓e_zald, ↓e_cald, ↓e_lald, ↓e_dald, ↓e_iast, ↓e_zast, ↓e_cast, ↓e_last, ↓e_dast, ↓e_aald, ↓e_alen, ↓e_throw, ↓e_iret, ↓e_zret, ↓e_cret, ↓e_aret, ↓e_lret, ↓e_fret, ↓e_dret, ↓e_vret, ↓e_new, ↓e_newarr, ↓e_pop1, ↓e_siald, ↓e_salen, ↓e_call, ↓e_callV, ↓e_callI, ↓e_call0, ↓e_callR, PI_e, PFl_e, PD_e, PR_e, PO_e, PHd_e, PA_e, PA_n, IX_e, IX_0, reduceIte, lget, lset, lclr, fget, ctake, cdrop, c1, Nat.reduceAdd, List.reverse_cons, List.reverse_nil, List.nil_append, List.cons_append, Option.toList_some, Option.toList_none, List.length_cons, List.length_nil, true_and, and_true, true_or, or_true, Nat.reduceLeDiff, Nat.reduceLT, Nat.zero_le, List.append_nil]) | refine ⟨_, rfl, by omega, by omega, ?_⟩ | (refine ⟨0, 0, rfl, rfl, ?_⟩) | (refine ⟨1, 6, rfl, rfl, ?_⟩) | (refine ⟨2, 12, rfl, rfl, ?_⟩) | (refine And.intro ?_ ?_; focus (first | exact b2i_01 _ | assumption | decide | (simp; done))))
/-- a new group put at a place -/
def grI (V : CV) (o i : Nat) (k : Int32) : CV :=
  c2 (c2 (c2 (c2 (c2 (c2 (c2 (cR V (o + 1) (va_cpy (V (o + 1)) (V (o + 1)) (6 * i) (6 * i + 6) (6 * nn (V o 1) - 6 * i))) (o + 1) (6 * i) k) (o + 1) (6 * i + 1) 0) (o + 1) (6 * i + 2) 0) (o + 1) (6 * i + 3) 0) (o + 1) (6 * i + 4) 999) (o + 1) (6 * i + 5) (-999)) o 1 (V o 1 + 1)
theorem nI_sub {a b : Nat} (h : b ≤ a) : nI a - nI b = nI (a - b) := (Int32.ofNat_sub a b h).symm
def T_Gr_insert (g : GG) : Spec2 := fun as f Q X => ∃ (O : AH) (ad : Nat → Nat) (sh : Sh) (V : CV) (L : Int64) (o : Nat) (i : Nat) (k : Int32), as = [.ref (ad o), .int (nI i), .int k] ∧ CR g O f ad sh V L ∧ kd sh o = 5 ∧ (∃ n, i ≤ n ∧ 6 * n + 6 ≤ sh.N (o + 1) ∧ V o 1 = nI n ∧ sh.N (o + 1) ≤ 960) ∧ ∀ f', CR g O f' ad sh (grI V o i k) (L) → Q (none) f'
theorem i_Gr_insert_ {g : GG} {O : AH} {ad : Nat → Nat} {sh : Sh} {V : CV} {L : Int64} {o : Nat} {i : Nat} {k : Int32} {f : AH} {Q : Option Value → AH → Prop} {X : String → AH → Prop} (hM : CR g O f ad sh V L) (hk : kd sh o = 5) (hp : ∃ n, i ≤ n ∧ 6 * n + 6 ≤ sh.N (o + 1) ∧ V o 1 = nI n ∧ sh.N (o + 1) ≤ 960) (h : ∀ f', CR g O f' ad sh (grI V o i k) (L) → Q (none) f') : T_Gr_insert g [.ref (ad o), .int (nI i), .int k] f Q X := ⟨O, ad, sh, V, L, o, i, k, rfl, hM, hk, hp, h⟩
abbrev m_Gr_insert (g : GG) (l : Launch) : MI := (RX4, cX4_insert, 5, none, [], false, 2, g, l)
def b_Gr_insert_0 (g : GG) : Blk := [(1, o_iload 1), (2, o_push (.int 6)), (1, o_imul), (1, o_istore 3), (1, o_aload 0), (3, o_getf 5 1), (2, o_push (.int 6)), (1, o_imul), (2, o_istore 4), (1, o_iload 3), (3, o_iflt 37), (1, o_iload 3), (2, o_iload 4), (3, o_icgt 37), (2, o_iload 4), (2, o_push (.int 6)), (1, o_iadd), (1, o_aload 0), (3, o_getf 5 0), (1, o_alen g), (3, o_icle 38)]
def b_Gr_insert_37 (g : GG) : Blk := [(1, o_vret)]
def b_Gr_insert_38 (g : GG) : Blk := [(1, o_aload 0), (3, o_getf 5 0), (1, o_iload 3), (1, o_aload 0), (3, o_getf 5 0), (1, o_iload 3), (2, o_push (.int 6)), (1, o_iadd), (2, o_iload 4), (1, o_iload 3), (1, o_isub), (3, o_acpy)]
def b_Gr_insert_58 (g : GG) : Blk := [(1, o_aload 0), (3, o_getf 5 0), (1, o_iload 3), (1, o_push (.int 0)), (1, o_iadd), (1, o_iload 2), (1, o_iast), (1, o_aload 0), (3, o_getf 5 0), (1, o_iload 3), (1, o_push (.int 1)), (1, o_iadd), (1, o_push (.int 0)), (1, o_iast), (1, o_aload 0), (3, o_getf 5 0), (1, o_iload 3), (1, o_push (.int 2)), (1, o_iadd), (1, o_push (.int 0)), (1, o_iast)]
def b_Gr_insert_85 (g : GG) : Blk := [(1, o_aload 0), (3, o_getf 5 0), (1, o_iload 3), (1, o_push (.int 3)), (1, o_iadd), (1, o_push (.int 0)), (1, o_iast), (1, o_aload 0), (3, o_getf 5 0), (1, o_iload 3), (1, o_push (.int 4)), (1, o_iadd), (3, o_push (.int 999)), (1, o_iast)]
def b_Gr_insert_105 (g : GG) : Blk := [(1, o_aload 0), (3, o_getf 5 0), (1, o_iload 3), (1, o_push (.int 5)), (1, o_iadd), (3, o_push (.int (-999))), (1, o_iast), (1, o_aload 0), (1, o_dup), (3, o_getf 5 1), (1, o_push (.int 1)), (1, o_iadd), (3, o_putI 5 1), (1, o_vret)]
set_option maxRecDepth 8000 in
theorem okb_Gr_insert_0 (g : GG) (l : Launch) (hst : l.stackTraces = false) : BlkOk (m_Gr_insert g l) 0 (b_Gr_insert_0 g) := 
  ⟨ok_iload_n (by decide +kernel : decode cX4_insert 0 = .ok (.iload_n 1, 1)) rfl,
  ⟨ok_bipush (by decide) (by decide +kernel : decode cX4_insert 1 = .ok (.bipush 6, 2)),
  ⟨ok_imul (by decide +kernel : decode cX4_insert 3 = .ok (.imul, 1)),
  ⟨ok_istore_n rfl (Nat.le_of_ble_eq_true rfl) (by decide +kernel : decode cX4_insert 4 = .ok (.istore_n 3, 1)),
  ⟨ok_aload_n (by decide +kernel : decode cX4_insert 5 = .ok (.aload_n 0, 1)) rfl,
  ⟨ok_getf cls_5 (Nat.le_of_ble_eq_true rfl) tw_137 rfl (by decide +kernel : decode cX4_insert 6 = .ok (.getfield 15, 3)),
  ⟨ok_bipush (by decide) (by decide +kernel : decode cX4_insert 9 = .ok (.bipush 6, 2)),
  ⟨ok_imul (by decide +kernel : decode cX4_insert 11 = .ok (.imul, 1)),
  ⟨ok_istore (Nat.le_of_ble_eq_true rfl) (by decide +kernel : decode cX4_insert 12 = .ok (.istore 4, 2)),
  ⟨ok_iload_n (by decide +kernel : decode cX4_insert 14 = .ok (.iload_n 3, 1)) rfl,
  ⟨ok_iflt (by decide) (by decide +kernel : decode cX4_insert 15 = .ok (.ifCond .lt 22, 3)),
  ⟨ok_iload_n (by decide +kernel : decode cX4_insert 18 = .ok (.iload_n 3, 1)) rfl,
  ⟨ok_iload (by decide +kernel : decode cX4_insert 19 = .ok (.iload 4, 2)),
  ⟨ok_icgt (by decide) (by decide +kernel : decode cX4_insert 21 = .ok (.if_icmp .gt 16, 3)),
  ⟨ok_iload (by decide +kernel : decode cX4_insert 24 = .ok (.iload 4, 2)),
  ⟨ok_bipush (by decide) (by decide +kernel : decode cX4_insert 26 = .ok (.bipush 6, 2)),
  ⟨ok_iadd (by decide +kernel : decode cX4_insert 28 = .ok (.iadd, 1)),
  ⟨ok_aload_n (by decide +kernel : decode cX4_insert 29 = .ok (.aload_n 0, 1)) rfl,
  ⟨ok_getf cls_5 (Nat.le_of_ble_eq_true rfl) tw_136 rfl (by decide +kernel : decode cX4_insert 30 = .ok (.getfield 11, 3)),
  ⟨ok_alen (by decide +kernel : decode cX4_insert 33 = .ok (.arraylength, 1)),
  ⟨ok_icle (by decide) (by decide +kernel : decode cX4_insert 34 = .ok (.if_icmp .le 4, 3)), trivial⟩⟩⟩⟩⟩⟩⟩⟩⟩⟩⟩⟩⟩⟩⟩⟩⟩⟩⟩⟩⟩
set_option maxRecDepth 8000 in
theorem okb_Gr_insert_37 (g : GG) (l : Launch) (hst : l.stackTraces = false) : BlkOk (m_Gr_insert g l) 37 (b_Gr_insert_37 g) := 
  ⟨ok_vret rfl (by decide +kernel : decode cX4_insert 37 = .ok (.return_, 1)), trivial⟩
set_option maxRecDepth 8000 in
theorem okb_Gr_insert_38 (g : GG) (l : Launch) (hst : l.stackTraces = false) : BlkOk (m_Gr_insert g l) 38 (b_Gr_insert_38 g) := 
  ⟨ok_aload_n (by decide +kernel : decode cX4_insert 38 = .ok (.aload_n 0, 1)) rfl,
  ⟨ok_getf cls_5 (Nat.le_of_ble_eq_true rfl) tw_136 rfl (by decide +kernel : decode cX4_insert 39 = .ok (.getfield 11, 3)),
  ⟨ok_iload_n (by decide +kernel : decode cX4_insert 42 = .ok (.iload_n 3, 1)) rfl,
  ⟨ok_aload_n (by decide +kernel : decode cX4_insert 43 = .ok (.aload_n 0, 1)) rfl,
  ⟨ok_getf cls_5 (Nat.le_of_ble_eq_true rfl) tw_136 rfl (by decide +kernel : decode cX4_insert 44 = .ok (.getfield 11, 3)),
  ⟨ok_iload_n (by decide +kernel : decode cX4_insert 47 = .ok (.iload_n 3, 1)) rfl,
  ⟨ok_bipush (by decide) (by decide +kernel : decode cX4_insert 48 = .ok (.bipush 6, 2)),
  ⟨ok_iadd (by decide +kernel : decode cX4_insert 50 = .ok (.iadd, 1)),
  ⟨ok_iload (by decide +kernel : decode cX4_insert 51 = .ok (.iload 4, 2)),
  ⟨ok_iload_n (by decide +kernel : decode cX4_insert 53 = .ok (.iload_n 3, 1)) rfl,
  ⟨ok_isub (by decide +kernel : decode cX4_insert 54 = .ok (.isub, 1)),
  ⟨ok_acpy tw_360 tw_362 tw_361 tw_21 (by decide +kernel : decode cX4_insert 55 = .ok (.invokestatic 39, 3)), trivial⟩⟩⟩⟩⟩⟩⟩⟩⟩⟩⟩⟩
set_option maxRecDepth 8000 in
theorem okb_Gr_insert_58 (g : GG) (l : Launch) (hst : l.stackTraces = false) : BlkOk (m_Gr_insert g l) 58 (b_Gr_insert_58 g) := 
  ⟨ok_aload_n (by decide +kernel : decode cX4_insert 58 = .ok (.aload_n 0, 1)) rfl,
  ⟨ok_getf cls_5 (Nat.le_of_ble_eq_true rfl) tw_136 rfl (by decide +kernel : decode cX4_insert 59 = .ok (.getfield 11, 3)),
  ⟨ok_iload_n (by decide +kernel : decode cX4_insert 62 = .ok (.iload_n 3, 1)) rfl,
  ⟨ok_iconst (by decide) (by decide +kernel : decode cX4_insert 63 = .ok (.iconst 0, 1)),
  ⟨ok_iadd (by decide +kernel : decode cX4_insert 64 = .ok (.iadd, 1)),
  ⟨ok_iload_n (by decide +kernel : decode cX4_insert 65 = .ok (.iload_n 2, 1)) rfl,
  ⟨ok_iast (by decide +kernel : decode cX4_insert 66 = .ok (.iastore, 1)),
  ⟨ok_aload_n (by decide +kernel : decode cX4_insert 67 = .ok (.aload_n 0, 1)) rfl,
  ⟨ok_getf cls_5 (Nat.le_of_ble_eq_true rfl) tw_136 rfl (by decide +kernel : decode cX4_insert 68 = .ok (.getfield 11, 3)),
  ⟨ok_iload_n (by decide +kernel : decode cX4_insert 71 = .ok (.iload_n 3, 1)) rfl,
  ⟨ok_iconst (by decide) (by decide +kernel : decode cX4_insert 72 = .ok (.iconst 1, 1)),
  ⟨ok_iadd (by decide +kernel : decode cX4_insert 73 = .ok (.iadd, 1)),
  ⟨ok_iconst (by decide) (by decide +kernel : decode cX4_insert 74 = .ok (.iconst 0, 1)),
  ⟨ok_iast (by decide +kernel : decode cX4_insert 75 = .ok (.iastore, 1)),
  ⟨ok_aload_n (by decide +kernel : decode cX4_insert 76 = .ok (.aload_n 0, 1)) rfl,
  ⟨ok_getf cls_5 (Nat.le_of_ble_eq_true rfl) tw_136 rfl (by decide +kernel : decode cX4_insert 77 = .ok (.getfield 11, 3)),
  ⟨ok_iload_n (by decide +kernel : decode cX4_insert 80 = .ok (.iload_n 3, 1)) rfl,
  ⟨ok_iconst (by decide) (by decide +kernel : decode cX4_insert 81 = .ok (.iconst 2, 1)),
  ⟨ok_iadd (by decide +kernel : decode cX4_insert 82 = .ok (.iadd, 1)),
  ⟨ok_iconst (by decide) (by decide +kernel : decode cX4_insert 83 = .ok (.iconst 0, 1)),
  ⟨ok_iast (by decide +kernel : decode cX4_insert 84 = .ok (.iastore, 1)), trivial⟩⟩⟩⟩⟩⟩⟩⟩⟩⟩⟩⟩⟩⟩⟩⟩⟩⟩⟩⟩⟩
set_option maxRecDepth 8000 in
theorem okb_Gr_insert_85 (g : GG) (l : Launch) (hst : l.stackTraces = false) : BlkOk (m_Gr_insert g l) 85 (b_Gr_insert_85 g) := 
  ⟨ok_aload_n (by decide +kernel : decode cX4_insert 85 = .ok (.aload_n 0, 1)) rfl,
  ⟨ok_getf cls_5 (Nat.le_of_ble_eq_true rfl) tw_136 rfl (by decide +kernel : decode cX4_insert 86 = .ok (.getfield 11, 3)),
  ⟨ok_iload_n (by decide +kernel : decode cX4_insert 89 = .ok (.iload_n 3, 1)) rfl,
  ⟨ok_iconst (by decide) (by decide +kernel : decode cX4_insert 90 = .ok (.iconst 3, 1)),
  ⟨ok_iadd (by decide +kernel : decode cX4_insert 91 = .ok (.iadd, 1)),
  ⟨ok_iconst (by decide) (by decide +kernel : decode cX4_insert 92 = .ok (.iconst 0, 1)),
  ⟨ok_iast (by decide +kernel : decode cX4_insert 93 = .ok (.iastore, 1)),
  ⟨ok_aload_n (by decide +kernel : decode cX4_insert 94 = .ok (.aload_n 0, 1)) rfl,
  ⟨ok_getf cls_5 (Nat.le_of_ble_eq_true rfl) tw_136 rfl (by decide +kernel : decode cX4_insert 95 = .ok (.getfield 11, 3)),
  ⟨ok_iload_n (by decide +kernel : decode cX4_insert 98 = .ok (.iload_n 3, 1)) rfl,
  ⟨ok_iconst (by decide) (by decide +kernel : decode cX4_insert 99 = .ok (.iconst 4, 1)),
  ⟨ok_iadd (by decide +kernel : decode cX4_insert 100 = .ok (.iadd, 1)),
  ⟨ok_sipush (by decide) (by decide +kernel : decode cX4_insert 101 = .ok (.sipush 999, 3)),
  ⟨ok_iast (by decide +kernel : decode cX4_insert 104 = .ok (.iastore, 1)), trivial⟩⟩⟩⟩⟩⟩⟩⟩⟩⟩⟩⟩⟩⟩
set_option maxRecDepth 8000 in
theorem okb_Gr_insert_105 (g : GG) (l : Launch) (hst : l.stackTraces = false) : BlkOk (m_Gr_insert g l) 105 (b_Gr_insert_105 g) := 
  ⟨ok_aload_n (by decide +kernel : decode cX4_insert 105 = .ok (.aload_n 0, 1)) rfl,
  ⟨ok_getf cls_5 (Nat.le_of_ble_eq_true rfl) tw_136 rfl (by decide +kernel : decode cX4_insert 106 = .ok (.getfield 11, 3)),
  ⟨ok_iload_n (by decide +kernel : decode cX4_insert 109 = .ok (.iload_n 3, 1)) rfl,
  ⟨ok_iconst (by decide) (by decide +kernel : decode cX4_insert 110 = .ok (.iconst 5, 1)),
  ⟨ok_iadd (by decide +kernel : decode cX4_insert 111 = .ok (.iadd, 1)),
  ⟨ok_sipush (by decide) (by decide +kernel : decode cX4_insert 112 = .ok (.sipush (-999), 3)),
  ⟨ok_iast (by decide +kernel : decode cX4_insert 115 = .ok (.iastore, 1)),
  ⟨ok_aload_n (by decide +kernel : decode cX4_insert 116 = .ok (.aload_n 0, 1)) rfl,
  ⟨ok_dup (by decide +kernel : decode cX4_insert 117 = .ok (.dup, 1)),
  ⟨ok_getf cls_5 (Nat.le_of_ble_eq_true rfl) tw_137 rfl (by decide +kernel : decode cX4_insert 118 = .ok (.getfield 15, 3)),
  ⟨ok_iconst (by decide) (by decide +kernel : decode cX4_insert 121 = .ok (.iconst 1, 1)),
  ⟨ok_iadd (by decide +kernel : decode cX4_insert 122 = .ok (.iadd, 1)),
  ⟨ok_putI cls_5 (Nat.le_of_ble_eq_true rfl) tw_137 rfl rfl rfl (by decide +kernel : decode cX4_insert 123 = .ok (.putfield 15, 3)),
  ⟨ok_vret rfl (by decide +kernel : decode cX4_insert 126 = .ok (.return_, 1)), trivial⟩⟩⟩⟩⟩⟩⟩⟩⟩⟩⟩⟩⟩⟩
def k_Gr_insert (g : GG) : List (Nat × Blk) := [(0, b_Gr_insert_0 g), (37, b_Gr_insert_37 g), (38, b_Gr_insert_38 g), (58, b_Gr_insert_58 g), (85, b_Gr_insert_85 g), (105, b_Gr_insert_105 g)]
theorem ok_Gr_insert (g : GG) (l : Launch) (hst : l.stackTraces = false) : ∀ b ∈ k_Gr_insert g, BlkOk (m_Gr_insert g l) b.1 b.2 := List.forall_mem_cons.mpr ⟨okb_Gr_insert_0 g l hst, List.forall_mem_cons.mpr ⟨okb_Gr_insert_37 g l hst, List.forall_mem_cons.mpr ⟨okb_Gr_insert_38 g l hst, List.forall_mem_cons.mpr ⟨okb_Gr_insert_58 g l hst, List.forall_mem_cons.mpr ⟨okb_Gr_insert_85 g l hst, List.forall_mem_cons.mpr ⟨okb_Gr_insert_105 g l hst, fun _ h => by cases h⟩⟩⟩⟩⟩⟩
def i_Gr_insert (g : GG) : List (Nat × Blk) := [(37, b_Gr_insert_37 g)]
theorem is_Gr_insert (g : GG) : ∀ x ∈ i_Gr_insert g, x ∈ k_Gr_insert g := sub_at [1] rfl
theorem w_Gr_insert_0 (g : GG) (u : Unit) (n : List Unit) (B : Bx) (Q : Option Value → AH → Prop) (X : String → AH → Prop) (lv : LV) (st : List Value) (f : AH) (bc bs : Nat) : wpF (i_Gr_insert g) (u :: n) B Q X 0 lv st f bc bs = B 0 lv st f bc bs := (rfl)
theorem w_Gr_insert_37 (g : GG) (u : Unit) (n : List Unit) (B : Bx) (Q : Option Value → AH → Prop) (X : String → AH → Prop) (lv : LV) (st : List Value) (f : AH) (bc bs : Nat) : wpF (i_Gr_insert g) (u :: n) B Q X 37 lv st f bc bs = wpL (b_Gr_insert_37 g) 37 lv st f bc bs (wpF (i_Gr_insert g) n B Q X) Q X := (rfl)
theorem w_Gr_insert_38 (g : GG) (u : Unit) (n : List Unit) (B : Bx) (Q : Option Value → AH → Prop) (X : String → AH → Prop) (lv : LV) (st : List Value) (f : AH) (bc bs : Nat) : wpF (i_Gr_insert g) (u :: n) B Q X 38 lv st f bc bs = B 38 lv st f bc bs := (rfl)
theorem w_Gr_insert_58 (g : GG) (u : Unit) (n : List Unit) (B : Bx) (Q : Option Value → AH → Prop) (X : String → AH → Prop) (lv : LV) (st : List Value) (f : AH) (bc bs : Nat) : wpF (i_Gr_insert g) (u :: n) B Q X 58 lv st f bc bs = B 58 lv st f bc bs := (rfl)
theorem w_Gr_insert_85 (g : GG) (u : Unit) (n : List Unit) (B : Bx) (Q : Option Value → AH → Prop) (X : String → AH → Prop) (lv : LV) (st : List Value) (f : AH) (bc bs : Nat) : wpF (i_Gr_insert g) (u :: n) B Q X 85 lv st f bc bs = B 85 lv st f bc bs := (rfl)
theorem w_Gr_insert_105 (g : GG) (u : Unit) (n : List Unit) (B : Bx) (Q : Option Value → AH → Prop) (X : String → AH → Prop) (lv : LV) (st : List Value) (f : AH) (bc bs : Nat) : wpF (i_Gr_insert g) (u :: n) B Q X 105 lv st f bc bs = B 105 lv st f bc bs := (rfl)
set_option maxRecDepth 4000 in
set_option maxHeartbeats 4000000 in
theorem s_Gr_insert (g : GG) (l : Launch) (hst : l.stackTraces = false) : Snd yX4_insert (m_Gr_insert g l) 0 0 (T_Gr_insert g) := by
  refine snd_of (plainFor_of_name (by decide)) rfl (fun h => by first | rfl | cases h) rfl hst (k_Gr_insert g) (ok_Gr_insert g l hst) ?_
  rintro as f Q X ⟨O, ad, sh, V, L, o, i, k, rfl, hM, hk, hp, hq⟩
  refine ⟨[some (.ref (ad o)), some (.int (nI i)), some (.int k), none, none], rfl, Nat.le_of_ble_eq_true rfl, fun B run => ?_⟩
  obtain ⟨n, hi, hn, e, hN⟩ := hp
  rw [grI, e, nn_nI (by omega), nI_1] at hq
  have h0 : ¬ nI (6 * i) < 0 := nI_pos (by omega)
  have h1 : ¬ nI (6 * n) < nI (6 * i) := nI_nlt (by omega) (by omega)
  have h2 : nI (6 * n + 6) ≤ nI (sh.N (o + 1)) := nI_le hn (by omega)
  have h3 : nI (6 * n) - nI (6 * i) = nI (6 * n - 6 * i) := nI_sub (by omega)
  repeat (first | (refine hq _ ?_; exact hM) | (refine hx _ ?_; exact hM) | refine ⟨_, _, _, rfl, rfl, rfl, by omega, by omega, by omega, ?_⟩ | (intro f e; (refine CR.kcp hM (kd_5_1 hk) e rfl fun hM => ?_); clear e; simp -dsimp (disch := omega) only [e, nI_m6, h0, h1, h2, h3, nI_p4, nI_p5, nI_p6, Int32.add_zero, thr_n, wdC_n, wrC_n, tchC_n, wpF_0, c2_n, ↓e_callX, ↓e_callX0, ↓e_acpy, cR_s, cR_n, ↓hobj_c (hM.o5 hk), ↓hAI_c (hM.ai (kd_5_1 hk)), ↓hM.ai (kd_5_1 hk), c2_s, c2_n, eq_self, nI_dec, ixE, nI_4m, nI_16m, nI_10m, nI_2m, nI_add, nI_1, nI_p2, nI_p3, nI_pred, c3_n, c3_s, c3_i, upd_s, upd_n, rowU_n, rowU_ge, true_imp_iff, false_imp_iff, not_true_eq_false, not_false_eq_true, b2i_t, b2i_f, i32_10, i32_00, i32_11, ite_true_I, false_and, and_false, true_and, and_true, or_true, true_or, false_or, or_false, w_Gr_insert_0, w_Gr_insert_37, w_Gr_insert_38, w_Gr_insert_58, w_Gr_insert_85, w_Gr_insert_105, ↓b_Gr_insert_0, ↓b_Gr_insert_37, ↓b_Gr_insert_38, ↓b_Gr_insert_58, ↓b_Gr_insert_85, ↓b_Gr_insert_105, ↓wpL_n, ↓wpL_c, ↓e_iadd, ↓e_isub, ↓e_imul, ↓e_iand, ↓e_ior, ↓e_ixor, ↓e_ishl, ↓e_ishr, ↓e_iushr, ↓e_idiv, ↓e_irem, ↓e_ineg, ↓e_ladd, ↓e_lcmp, ↓e_i2l, ↓e_i2c, ↓e_i2d, ↓e_i2f, ↓e_l2f, ↓e_f2d, ↓e_fdiv, ↓e_ddiv, ↓e_dcmp_l, ↓e_fcmp_l, ↓e_dcmp_g, ↓e_fcmp_g, ↓e_push, ↓e_iload, ↓e_fload, ↓e_dload, ↓e_aload, ↓e_istore, ↓e_fstore, ↓e_astore, ↓e_iinc, ↓e_ifeq, ↓e_iceq, ↓e_ifne, ↓e_icne, ↓e_iflt, ↓e_iclt, ↓e_ifge, ↓e_icge, ↓e_ifgt, ↓e_icgt, ↓e_ifle, ↓e_icle, ↓e_goto, ↓e_dup, ↓e_pop, ↓e_dup_x1, ↓e_dup2, ↓e_getf, ↓e_putI, ↓e_putJ, ↓e_putC, ↓e_putR, ↓e_iald, ↓e_zald, ↓e_cald, ↓e_lald, ↓e_dald, ↓e_iast, ↓e_zast, ↓e_cast, ↓e_last, ↓e_dast, ↓e_aald, ↓e_alen, ↓e_throw, ↓e_iret, ↓e_zret, ↓e_cret, ↓e_aret, ↓e_lret, ↓e_fret, ↓e_dret, ↓e_vret, ↓e_new, ↓e_newarr, ↓e_pop1, ↓e_siald, ↓e_salen, ↓e_call, ↓e_callV, ↓e_callI, ↓e_call0, ↓e_callR, PI_e, PFl_e, PD_e, PR_e, PO_e, PHd_e, PA_e, PA_n, IX_e, IX_0, reduceIte, lget, lset, lclr, fget, ctake, cdrop, c1, Nat.reduceAdd, List.reverse_cons, List.reverse_nil, List.nil_append, List.cons_append, Option.toList_some, Option.toList_none, List.length_cons, List.length_nil, true_and, and_true, true_or, or_true, Nat.reduceLeDiff, Nat.reduceLT, Nat.zero_le, List.append_nil]) | (refine run _ _ (i_Gr_insert g) [(), ()] rfl (is_Gr_insert g) _ _ _ _ _ ?_; (try simp only [Option.toList_some, Option.toList_none, List.cons_append, List.nil_append, List.append_nil]); simp -dsimp (disch := omega) only [e, nI_m6, h0, h1, h2, h3, nI_p4, nI_p5, nI_p6, Int32.add_zero, thr_n, wdC_n, wrC_n, tchC_n, wpF_0, c2_n, ↓e_callX, ↓e_callX0, ↓e_acpy, cR_s, cR_n, ↓hobj_c (hM.o5 hk), ↓hAI_c (hM.ai (kd_5_1 hk)), ↓hM.ai (kd_5_1 hk), c2_s, c2_n, eq_self, nI_dec, ixE, nI_4m, nI_16m, nI_10m, nI_2m, nI_add, nI_1, nI_p2, nI_p3, nI_pred, c3_n, c3_s, c3_i, upd_s, upd_n, rowU_n, rowU_ge, true_imp_iff, false_imp_iff, not_true_eq_false, not_false_eq_true, b2i_t, b2i_f, i32_10, i32_00, i32_11, ite_true_I, false_and, and_false, true_and, and_true, or_true, true_or, false_or, or_false, w_Gr_insert_0, w_Gr_insert_37, w_Gr_insert_38, w_Gr_insert_58, w_Gr_insert_85, w_Gr_insert_105, ↓b_Gr_insert_0, ↓b_Gr_insert_37, ↓b_Gr_insert_38, ↓b_Gr_insert_58, ↓b_Gr_insert_85, ↓b_Gr_insert_105, ↓wpL_n, ↓wpL_c, ↓e_iadd, ↓e_isub, ↓e_imul, ↓e_iand, ↓e_ior, ↓e_ixor, ↓e_ishl, ↓e_ishr, ↓e_iushr, ↓e_idiv, ↓e_irem, ↓e_ineg, ↓e_ladd, ↓e_lcmp, ↓e_i2l, ↓e_i2c, ↓e_i2d, ↓e_i2f, ↓e_l2f, ↓e_f2d, ↓e_fdiv, ↓e_ddiv, ↓e_dcmp_l, ↓e_fcmp_l, ↓e_dcmp_g, ↓e_fcmp_g, ↓e_push, ↓e_iload, ↓e_fload, ↓e_dload, ↓e_aload, ↓e_istore, ↓e_fstore, ↓e_astore, ↓e_iinc, ↓e_ifeq, ↓e_iceq, ↓e_ifne, ↓e_icne, ↓e_iflt, ↓e_iclt, ↓e_ifge, ↓e_icge, ↓e_ifgt, ↓e_icgt, ↓e_ifle, ↓e_icle, ↓e_goto, ↓e_dup, ↓e_pop, ↓e_dup_x1, ↓e_dup2, ↓e_getf, ↓e_putI, ↓e_putJ, ↓e_putC, ↓e_putR, ↓e_iald, ↓e_zald, ↓e_cald, ↓e_lald, ↓e_dald, ↓e_iast, ↓e_zast, ↓e_cast, ↓e_last, ↓e_dast, ↓e_aald, ↓e_alen, ↓e_throw, ↓e_iret, ↓e_zret, ↓e_cret, ↓e_aret, ↓e_lret, ↓e_fret, ↓e_dret, ↓e_vret, ↓e_new, ↓e_newarr, ↓e_pop1, ↓e_siald, ↓e_salen, ↓e_call, ↓e_callV, ↓e_callI, ↓e_call0, ↓e_callR, PI_e, PFl_e, PD_e, PR_e, PO_e, PHd_e, PA_e, PA_n, IX_e, IX_0, reduceIte, lget, lset, lclr, fget, ctake, cdrop, c1, Nat.reduceAdd, List.reverse_cons, List.reverse_nil, List.nil_append, List.cons_append, Option.toList_some, Option.toList_none, List.length_cons, List.length_nil, true_and, and_true, true_or, or_true, Nat.reduceLeDiff, Nat.reduceLT, Nat.zero_le, List.append_nil]) | refine ⟨_, rfl, by omega, by omega, ?_⟩ | (refine ⟨0, 0, rfl, rfl, ?_⟩) | (refine ⟨1, 6, rfl, rfl, ?_⟩) | (refine ⟨2, 12, rfl, rfl, ?_⟩) | (refine And.intro ?_ ?_; focus (first | exact b2i_01 _ | assumption | decide | (simp; done))) | (intro f e; (first | (refine CR.kai hM (kd_5_1 hk) e ?_ ?_ fun hM => ?_; (focus (first | with_reducible rfl | with_reducible assumption | (simp -dsimp (disch := omega) only [c2_n, c2_s, upd_s, upd_n, thr_n, wdC_n, wrC_n, tchC_n, wpF_0, c2_n, ↓e_callX, ↓e_callX0, ↓e_acpy, cR_s, cR_n]; done))); (focus (first | with_reducible rfl | with_reducible assumption | (simp -dsimp (disch := omega) only [c2_n, c2_s, upd_s, upd_n, thr_n, wdC_n, wrC_n, tchC_n, wpF_0, c2_n, ↓e_callX, ↓e_callX0, ↓e_acpy, cR_s, cR_n]; done))); clear e) | (refine CR.k5_1 hM hk e ?_ fun hM => ?_; (focus (first | with_reducible rfl | with_reducible assumption | (simp -dsimp (disch := omega) only [c2_n, c2_s, upd_s, upd_n, thr_n, wdC_n, wrC_n, tchC_n, wpF_0, c2_n, ↓e_callX, ↓e_callX0, ↓e_acpy, cR_s, cR_n]; done))); clear e)); try simp -dsimp (disch := omega) only [e, nI_m6, h0, h1, h2, h3, nI_p4, nI_p5, nI_p6, Int32.add_zero, thr_n, wdC_n, wrC_n, tchC_n, wpF_0, c2_n, ↓e_callX, ↓e_callX0, ↓e_acpy, cR_s, cR_n, ↓hobj_c (hM.o5 hk), ↓hAI_c (hM.ai (kd_5_1 hk)), ↓hM.ai (kd_5_1 hk), c2_s, c2_n, eq_self, nI_dec, ixE, nI_4m, nI_16m, nI_10m, nI_2m, nI_add, nI_1, nI_p2, nI_p3, nI_pred, c3_n, c3_s, c3_i, upd_s, upd_n, rowU_n, rowU_ge, true_imp_iff, false_imp_iff, not_true_eq_false, not_false_eq_true, b2i_t, b2i_f, i32_10, i32_00, i32_11, ite_true_I, false_and, and_false, true_and, and_true, or_true, true_or, false_or, or_false, w_Gr_insert_0, w_Gr_insert_37, w_Gr_insert_38, w_Gr_insert_58, w_Gr_insert_85, w_Gr_insert_105, ↓b_Gr_insert_0, ↓b_Gr_insert_37, ↓b_Gr_insert_38, ↓b_Gr_insert_58, ↓b_Gr_insert_85, ↓b_Gr_insert_105, ↓wpL_n, ↓wpL_c, ↓e_iadd, ↓e_isub, ↓e_imul, ↓e_iand, ↓e_ior, ↓e_ixor, ↓e_ishl, ↓e_ishr, ↓e_iushr, ↓e_idiv, ↓e_irem, ↓e_ineg, ↓e_ladd, ↓e_lcmp, ↓e_i2l, ↓e_i2c, ↓e_i2d, ↓e_i2f, ↓e_l2f, ↓e_f2d, ↓e_fdiv, ↓e_ddiv, ↓e_dcmp_l, ↓e_fcmp_l, ↓e_dcmp_g, ↓e_fcmp_g, ↓e_push, ↓e_iload, ↓e_fload, ↓e_dload, ↓e_aload, ↓e_istore, ↓e_fstore, ↓e_astore, ↓e_iinc, ↓e_ifeq, ↓e_iceq, ↓e_ifne, ↓e_icne, ↓e_iflt, ↓e_iclt, ↓e_ifge, ↓e_icge, ↓e_ifgt, ↓e_icgt, ↓e_ifle, ↓e_icle, ↓e_goto, ↓e_dup, ↓e_pop, ↓e_dup_x1, ↓e_dup2, ↓e_getf, ↓e_putI, ↓e_putJ, ↓e_putC, ↓e_putR, ↓e_iald, ↓e_zald, ↓e_cald, ↓e_lald, ↓e_dald, ↓e_iast, ↓e_zast, ↓e_cast, ↓e_last, ↓e_dast, ↓e_aald, ↓e_alen, ↓e_throw, ↓e_iret, ↓e_zret, ↓e_cret, ↓e_aret, ↓e_lret, ↓e_fret, ↓e_dret, ↓e_vret, ↓e_new, ↓e_newarr, ↓e_pop1, ↓e_siald, ↓e_salen, ↓e_call, ↓e_callV, ↓e_callI, ↓e_call0, ↓e_callR, PI_e, PFl_e, PD_e, PR_e, PO_e, PHd_e, PA_e, PA_n, IX_e, IX_0, reduceIte, lget, lset, lclr, fget, ctake, cdrop, c1, Nat.reduceAdd, List.reverse_cons, List.reverse_nil, List.nil_append, List.cons_append, Option.toList_some, Option.toList_none, List.length_cons, List.length_nil, true_and, and_true, true_or, or_true, Nat.reduceLeDiff, Nat.reduceLT, Nat.zero_le, List.append_nil]))
def grA (W : CV) (o i : Nat) (m : Int32) : CV :=
  if m = -1000 then c2 W (o + 1) (6 * i + 1) (W (o + 1) (6 * i + 1) + 1) else
  c2 (c2 (c2 (c2 (c2 W (o + 1) (6 * i + 1) (W (o + 1) (6 * i + 1) + 1)) (o + 1) (6 * i + 2) (W (o + 1) (6 * i + 2) + 1)) (o + 1) (6 * i + 3) (W (o + 1) (6 * i + 3) + m)) (o + 1) (6 * i + 4) (imin (W (o + 1) (6 * i + 4)) m)) (o + 1) (6 * i + 5) (imax (W (o + 1) (6 * i + 5)) m)
def grT (V : CV) (o : Nat) (k m : Int32) : CV := grA (if gHas V o k then V else grI V o (gpX V o k) k) o (gpX V o k) m
def T_Gr_take (g : GG) : Spec2 := fun as f Q X => ∃ (O : AH) (ad : Nat → Nat) (sh : Sh) (V : CV) (L : Int64) (o : Nat) (k : Int32) (m : Int32), as = [.ref (ad o), .int k, .int m] ∧ CR g O f ad sh V L ∧ kd sh o = 5 ∧ (GrOk sh V o ∧ (gHas V o k = false → 6 * nn (V o 1) + 6 ≤ sh.N (o + 1))) ∧ ∀ f', CR g O f' ad sh (grT V o k m) (L) → Q (none) f'
theorem i_Gr_take_ {g : GG} {O : AH} {ad : Nat → Nat} {sh : Sh} {V : CV} {L : Int64} {o : Nat} {k : Int32} {m : Int32} {f : AH} {Q : Option Value → AH → Prop} {X : String → AH → Prop} (hM : CR g O f ad sh V L) (hk : kd sh o = 5) (hp : GrOk sh V o ∧ (gHas V o k = false → 6 * nn (V o 1) + 6 ≤ sh.N (o + 1))) (h : ∀ f', CR g O f' ad sh (grT V o k m) (L) → Q (none) f') : T_Gr_take g [.ref (ad o), .int k, .int m] f Q X := ⟨O, ad, sh, V, L, o, k, m, rfl, hM, hk, hp, h⟩
abbrev m_Gr_take (g : GG) (l : Launch) : MI := (RX4, cX4_take, 5, none, [], false, 4, g, l)
def b_Gr_take_0 (g : GG) : Blk := [(1, o_aload 0), (1, o_iload 1), (3, o_callR (o_call0 (T_Gr_placeOf g) 2) 5 2)]
def b_Gr_take_5 (g : GG) : Blk := [(1, o_istore 3), (1, o_iload 3), (1, o_aload 0), (3, o_getf 5 1), (3, o_icge 24), (1, o_aload 0), (1, o_iload 3), (1, o_push (.int 0)), (3, o_callR (o_call0 (T_Gr_cell g) 3) 5 3)]
def b_Gr_take_20 (g : GG) : Blk := [(1, o_iload 1), (3, o_iceq 30)]
def b_Gr_take_24 (g : GG) : Blk := [(1, o_aload 0), (1, o_iload 3), (1, o_iload 1), (3, o_callR (o_call0 (T_Gr_insert g) 3) 5 3)]
def b_Gr_take_30 (g : GG) : Blk := [(1, o_iload 3), (2, o_push (.int 6)), (1, o_imul), (2, o_istore 4), (2, o_iload 4), (3, o_iflt 54), (2, o_iload 4), (2, o_push (.int 6)), (1, o_iadd), (1, o_aload 0), (3, o_getf 5 0), (1, o_alen g), (3, o_icle 55)]
def b_Gr_take_54 (g : GG) : Blk := [(1, o_vret)]
def b_Gr_take_55 (g : GG) : Blk := [(1, o_aload 0), (3, o_getf 5 0), (2, o_iload 4), (1, o_push (.int 1)), (1, o_iadd), (1, o_dup2), (1, o_iald), (1, o_push (.int 1)), (1, o_iadd), (1, o_iast), (1, o_iload 2), (3, o_push (.int (-1000))), (3, o_iceq 145), (1, o_aload 0), (3, o_getf 5 0), (2, o_iload 4), (1, o_push (.int 2)), (1, o_iadd), (1, o_dup2), (1, o_iald), (1, o_push (.int 1)), (1, o_iadd), (1, o_iast), (1, o_aload 0), (3, o_getf 5 0), (2, o_iload 4), (1, o_push (.int 3)), (1, o_iadd), (1, o_dup2), (1, o_iald), (1, o_iload 2), (1, o_iadd), (1, o_iast), (1, o_aload 0), (3, o_getf 5 0), (2, o_iload 4), (1, o_push (.int 4)), (1, o_iadd), (1, o_aload 0), (3, o_getf 5 0), (2, o_iload 4), (1, o_push (.int 4)), (1, o_iadd), (1, o_iald), (1, o_iload 2), (3, o_call0 T_Ma_min 2)]
def b_Gr_take_122 (g : GG) : Blk := [(1, o_iast), (1, o_aload 0), (3, o_getf 5 0), (2, o_iload 4), (1, o_push (.int 5)), (1, o_iadd), (1, o_aload 0), (3, o_getf 5 0), (2, o_iload 4), (1, o_push (.int 5)), (1, o_iadd), (1, o_iald), (1, o_iload 2), (3, o_call0 T_Ma_max 2)]
def b_Gr_take_144 (g : GG) : Blk := [(1, o_iast)]
def b_Gr_take_145 (g : GG) : Blk := [(1, o_vret)]
set_option maxRecDepth 8000 in
theorem okb_Gr_take_0 (g : GG) (l : Launch) (hst : l.stackTraces = false) : BlkOk (m_Gr_take g l) 0 (b_Gr_take_0 g) := 
  ⟨ok_aload_n (by decide +kernel : decode cX4_take 0 = .ok (.aload_n 0, 1)) rfl,
  ⟨ok_iload_n (by decide +kernel : decode cX4_take 1 = .ok (.iload_n 1, 1)) rfl,
  ⟨(ok_callV (k := 1) cls_5 (s_Gr_placeOf g l hst) (show 2 < 4 from by decide) (Nat.le_of_ble_eq_true rfl) rfl rfl tw_348 tw_350 ts_7 tw_8 tw_351 ⟨by decide, by decide, by decide⟩ (by decide +kernel : decode cX4_take 2 = .ok (.invokevirtual 19, 3))).mono callR0_of, trivial⟩⟩⟩
set_option maxRecDepth 8000 in
theorem okb_Gr_take_5 (g : GG) (l : Launch) (hst : l.stackTraces = false) : BlkOk (m_Gr_take g l) 5 (b_Gr_take_5 g) := 
  ⟨ok_istore_n rfl (Nat.le_of_ble_eq_true rfl) (by decide +kernel : decode cX4_take 5 = .ok (.istore_n 3, 1)),
  ⟨ok_iload_n (by decide +kernel : decode cX4_take 6 = .ok (.iload_n 3, 1)) rfl,
  ⟨ok_aload_n (by decide +kernel : decode cX4_take 7 = .ok (.aload_n 0, 1)) rfl,
  ⟨ok_getf cls_5 (Nat.le_of_ble_eq_true rfl) tw_137 rfl (by decide +kernel : decode cX4_take 8 = .ok (.getfield 15, 3)),
  ⟨ok_icge (by decide) (by decide +kernel : decode cX4_take 11 = .ok (.if_icmp .ge 13, 3)),
  ⟨ok_aload_n (by decide +kernel : decode cX4_take 14 = .ok (.aload_n 0, 1)) rfl,
  ⟨ok_iload_n (by decide +kernel : decode cX4_take 15 = .ok (.iload_n 3, 1)) rfl,
  ⟨ok_iconst (by decide) (by decide +kernel : decode cX4_take 16 = .ok (.iconst 0, 1)),
  ⟨(ok_callV (k := 2) cls_5 (s_Gr_cell g l hst) (show 1 < 4 from by decide) (Nat.le_of_ble_eq_true rfl) rfl rfl tw_352 tw_353 tw_354 tw_8 tw_355 ⟨by decide, by decide, by decide⟩ (by decide +kernel : decode cX4_take 17 = .ok (.invokevirtual 23, 3))).mono callR0_of, trivial⟩⟩⟩⟩⟩⟩⟩⟩⟩
set_option maxRecDepth 8000 in
theorem okb_Gr_take_20 (g : GG) (l : Launch) (hst : l.stackTraces = false) : BlkOk (m_Gr_take g l) 20 (b_Gr_take_20 g) := 
  ⟨ok_iload_n (by decide +kernel : decode cX4_take 20 = .ok (.iload_n 1, 1)) rfl,
  ⟨ok_iceq (by decide) (by decide +kernel : decode cX4_take 21 = .ok (.if_icmp .eq 9, 3)), trivial⟩⟩
set_option maxRecDepth 8000 in
theorem okb_Gr_take_24 (g : GG) (l : Launch) (hst : l.stackTraces = false) : BlkOk (m_Gr_take g l) 24 (b_Gr_take_24 g) := 
  ⟨ok_aload_n (by decide +kernel : decode cX4_take 24 = .ok (.aload_n 0, 1)) rfl,
  ⟨ok_iload_n (by decide +kernel : decode cX4_take 25 = .ok (.iload_n 3, 1)) rfl,
  ⟨ok_iload_n (by decide +kernel : decode cX4_take 26 = .ok (.iload_n 1, 1)) rfl,
  ⟨(ok_callV (k := 2) cls_5 (s_Gr_insert g l hst) (show 2 < 4 from by decide) (Nat.le_of_ble_eq_true rfl) rfl rfl tw_356 tw_358 ts_8 tw_8 tw_359 ⟨by decide, by decide, by decide⟩ (by decide +kernel : decode cX4_take 27 = .ok (.invokevirtual 27, 3))).mono callR0_of, trivial⟩⟩⟩⟩
set_option maxRecDepth 8000 in
theorem okb_Gr_take_30 (g : GG) (l : Launch) (hst : l.stackTraces = false) : BlkOk (m_Gr_take g l) 30 (b_Gr_take_30 g) := 
  ⟨ok_iload_n (by decide +kernel : decode cX4_take 30 = .ok (.iload_n 3, 1)) rfl,
  ⟨ok_bipush (by decide) (by decide +kernel : decode cX4_take 31 = .ok (.bipush 6, 2)),
  ⟨ok_imul (by decide +kernel : decode cX4_take 33 = .ok (.imul, 1)),
  ⟨ok_istore (Nat.le_of_ble_eq_true rfl) (by decide +kernel : decode cX4_take 34 = .ok (.istore 4, 2)),
  ⟨ok_iload (by decide +kernel : decode cX4_take 36 = .ok (.iload 4, 2)),
  ⟨ok_iflt (by decide) (by decide +kernel : decode cX4_take 38 = .ok (.ifCond .lt 16, 3)),
  ⟨ok_iload (by decide +kernel : decode cX4_take 41 = .ok (.iload 4, 2)),
  ⟨ok_bipush (by decide) (by decide +kernel : decode cX4_take 43 = .ok (.bipush 6, 2)),
  ⟨ok_iadd (by decide +kernel : decode cX4_take 45 = .ok (.iadd, 1)),
  ⟨ok_aload_n (by decide +kernel : decode cX4_take 46 = .ok (.aload_n 0, 1)) rfl,
  ⟨ok_getf cls_5 (Nat.le_of_ble_eq_true rfl) tw_136 rfl (by decide +kernel : decode cX4_take 47 = .ok (.getfield 11, 3)),
  ⟨ok_alen (by decide +kernel : decode cX4_take 50 = .ok (.arraylength, 1)),
  ⟨ok_icle (by decide) (by decide +kernel : decode cX4_take 51 = .ok (.if_icmp .le 4, 3)), trivial⟩⟩⟩⟩⟩⟩⟩⟩⟩⟩⟩⟩⟩
set_option maxRecDepth 8000 in
theorem okb_Gr_take_54 (g : GG) (l : Launch) (hst : l.stackTraces = false) : BlkOk (m_Gr_take g l) 54 (b_Gr_take_54 g) := 
  ⟨ok_vret rfl (by decide +kernel : decode cX4_take 54 = .ok (.return_, 1)), trivial⟩
set_option maxRecDepth 8000 in
theorem okb_Gr_take_55 (g : GG) (l : Launch) (hst : l.stackTraces = false) : BlkOk (m_Gr_take g l) 55 (b_Gr_take_55 g) := 
  ⟨ok_aload_n (by decide +kernel : decode cX4_take 55 = .ok (.aload_n 0, 1)) rfl,
  ⟨ok_getf cls_5 (Nat.le_of_ble_eq_true rfl) tw_136 rfl (by decide +kernel : decode cX4_take 56 = .ok (.getfield 11, 3)),
  ⟨ok_iload (by decide +kernel : decode cX4_take 59 = .ok (.iload 4, 2)),
  ⟨ok_iconst (by decide) (by decide +kernel : decode cX4_take 61 = .ok (.iconst 1, 1)),
  ⟨ok_iadd (by decide +kernel : decode cX4_take 62 = .ok (.iadd, 1)),
  ⟨ok_dup2 (by decide +kernel : decode cX4_take 63 = .ok (.dup2, 1)),
  ⟨ok_iald (by decide +kernel : decode cX4_take 64 = .ok (.iaload, 1)),
  ⟨ok_iconst (by decide) (by decide +kernel : decode cX4_take 65 = .ok (.iconst 1, 1)),
  ⟨ok_iadd (by decide +kernel : decode cX4_take 66 = .ok (.iadd, 1)),
  ⟨ok_iast (by decide +kernel : decode cX4_take 67 = .ok (.iastore, 1)),
  ⟨ok_iload_n (by decide +kernel : decode cX4_take 68 = .ok (.iload_n 2, 1)) rfl,
  ⟨ok_sipush (by decide) (by decide +kernel : decode cX4_take 69 = .ok (.sipush (-1000), 3)),
  ⟨ok_iceq (by decide) (by decide +kernel : decode cX4_take 72 = .ok (.if_icmp .eq 73, 3)),
  ⟨ok_aload_n (by decide +kernel : decode cX4_take 75 = .ok (.aload_n 0, 1)) rfl,
  ⟨ok_getf cls_5 (Nat.le_of_ble_eq_true rfl) tw_136 rfl (by decide +kernel : decode cX4_take 76 = .ok (.getfield 11, 3)),
  ⟨ok_iload (by decide +kernel : decode cX4_take 79 = .ok (.iload 4, 2)),
  ⟨ok_iconst (by decide) (by decide +kernel : decode cX4_take 81 = .ok (.iconst 2, 1)),
  ⟨ok_iadd (by decide +kernel : decode cX4_take 82 = .ok (.iadd, 1)),
  ⟨ok_dup2 (by decide +kernel : decode cX4_take 83 = .ok (.dup2, 1)),
  ⟨ok_iald (by decide +kernel : decode cX4_take 84 = .ok (.iaload, 1)),
  ⟨ok_iconst (by decide) (by decide +kernel : decode cX4_take 85 = .ok (.iconst 1, 1)),
  ⟨ok_iadd (by decide +kernel : decode cX4_take 86 = .ok (.iadd, 1)),
  ⟨ok_iast (by decide +kernel : decode cX4_take 87 = .ok (.iastore, 1)),
  ⟨ok_aload_n (by decide +kernel : decode cX4_take 88 = .ok (.aload_n 0, 1)) rfl,
  ⟨ok_getf cls_5 (Nat.le_of_ble_eq_true rfl) tw_136 rfl (by decide +kernel : decode cX4_take 89 = .ok (.getfield 11, 3)),
  ⟨ok_iload (by decide +kernel : decode cX4_take 92 = .ok (.iload 4, 2)),
  ⟨ok_iconst (by decide) (by decide +kernel : decode cX4_take 94 = .ok (.iconst 3, 1)),
  ⟨ok_iadd (by decide +kernel : decode cX4_take 95 = .ok (.iadd, 1)),
  ⟨ok_dup2 (by decide +kernel : decode cX4_take 96 = .ok (.dup2, 1)),
  ⟨ok_iald (by decide +kernel : decode cX4_take 97 = .ok (.iaload, 1)),
  ⟨ok_iload_n (by decide +kernel : decode cX4_take 98 = .ok (.iload_n 2, 1)) rfl,
  ⟨ok_iadd (by decide +kernel : decode cX4_take 99 = .ok (.iadd, 1)),
  ⟨ok_iast (by decide +kernel : decode cX4_take 100 = .ok (.iastore, 1)),
  ⟨ok_aload_n (by decide +kernel : decode cX4_take 101 = .ok (.aload_n 0, 1)) rfl,
  ⟨ok_getf cls_5 (Nat.le_of_ble_eq_true rfl) tw_136 rfl (by decide +kernel : decode cX4_take 102 = .ok (.getfield 11, 3)),
  ⟨ok_iload (by decide +kernel : decode cX4_take 105 = .ok (.iload 4, 2)),
  ⟨ok_iconst (by decide) (by decide +kernel : decode cX4_take 107 = .ok (.iconst 4, 1)),
  ⟨ok_iadd (by decide +kernel : decode cX4_take 108 = .ok (.iadd, 1)),
  ⟨ok_aload_n (by decide +kernel : decode cX4_take 109 = .ok (.aload_n 0, 1)) rfl,
  ⟨ok_getf cls_5 (Nat.le_of_ble_eq_true rfl) tw_136 rfl (by decide +kernel : decode cX4_take 110 = .ok (.getfield 11, 3)),
  ⟨ok_iload (by decide +kernel : decode cX4_take 113 = .ok (.iload 4, 2)),
  ⟨ok_iconst (by decide) (by decide +kernel : decode cX4_take 115 = .ok (.iconst 4, 1)),
  ⟨ok_iadd (by decide +kernel : decode cX4_take 116 = .ok (.iadd, 1)),
  ⟨ok_iald (by decide +kernel : decode cX4_take 117 = .ok (.iaload, 1)),
  ⟨ok_iload_n (by decide +kernel : decode cX4_take 118 = .ok (.iload_n 2, 1)) rfl,
  ⟨(ok_callS (k := 2) (s_Ma_min g l hst) (show 1 < 4 from by decide) (Nat.le_of_ble_eq_true rfl) rfl rfl tw_363 tw_282 tw_19 tw_283 ⟨by decide, by decide, by decide⟩ (by decide +kernel : decode cX4_take 119 = .ok (.invokestatic 31, 3))).mono call0_of, trivial⟩⟩⟩⟩⟩⟩⟩⟩⟩⟩⟩⟩⟩⟩⟩⟩⟩⟩⟩⟩⟩⟩⟩⟩⟩⟩⟩⟩⟩⟩⟩⟩⟩⟩⟩⟩⟩⟩⟩⟩⟩⟩⟩⟩⟩⟩
set_option maxRecDepth 8000 in
theorem okb_Gr_take_122 (g : GG) (l : Launch) (hst : l.stackTraces = false) : BlkOk (m_Gr_take g l) 122 (b_Gr_take_122 g) := 
  ⟨ok_iast (by decide +kernel : decode cX4_take 122 = .ok (.iastore, 1)),
  ⟨ok_aload_n (by decide +kernel : decode cX4_take 123 = .ok (.aload_n 0, 1)) rfl,
  ⟨ok_getf cls_5 (Nat.le_of_ble_eq_true rfl) tw_136 rfl (by decide +kernel : decode cX4_take 124 = .ok (.getfield 11, 3)),
  ⟨ok_iload (by decide +kernel : decode cX4_take 127 = .ok (.iload 4, 2)),
  ⟨ok_iconst (by decide) (by decide +kernel : decode cX4_take 129 = .ok (.iconst 5, 1)),
  ⟨ok_iadd (by decide +kernel : decode cX4_take 130 = .ok (.iadd, 1)),
  ⟨ok_aload_n (by decide +kernel : decode cX4_take 131 = .ok (.aload_n 0, 1)) rfl,
  ⟨ok_getf cls_5 (Nat.le_of_ble_eq_true rfl) tw_136 rfl (by decide +kernel : decode cX4_take 132 = .ok (.getfield 11, 3)),
  ⟨ok_iload (by decide +kernel : decode cX4_take 135 = .ok (.iload 4, 2)),
  ⟨ok_iconst (by decide) (by decide +kernel : decode cX4_take 137 = .ok (.iconst 5, 1)),
  ⟨ok_iadd (by decide +kernel : decode cX4_take 138 = .ok (.iadd, 1)),
  ⟨ok_iald (by decide +kernel : decode cX4_take 139 = .ok (.iaload, 1)),
  ⟨ok_iload_n (by decide +kernel : decode cX4_take 140 = .ok (.iload_n 2, 1)) rfl,
  ⟨(ok_callS (k := 2) (s_Ma_max g l hst) (show 1 < 4 from by decide) (Nat.le_of_ble_eq_true rfl) rfl rfl tw_364 tw_285 tw_19 tw_286 ⟨by decide, by decide, by decide⟩ (by decide +kernel : decode cX4_take 141 = .ok (.invokestatic 36, 3))).mono call0_of, trivial⟩⟩⟩⟩⟩⟩⟩⟩⟩⟩⟩⟩⟩⟩
set_option maxRecDepth 8000 in
theorem okb_Gr_take_144 (g : GG) (l : Launch) (hst : l.stackTraces = false) : BlkOk (m_Gr_take g l) 144 (b_Gr_take_144 g) := 
  ⟨ok_iast (by decide +kernel : decode cX4_take 144 = .ok (.iastore, 1)), trivial⟩
set_option maxRecDepth 8000 in
theorem okb_Gr_take_145 (g : GG) (l : Launch) (hst : l.stackTraces = false) : BlkOk (m_Gr_take g l) 145 (b_Gr_take_145 g) := 
  ⟨ok_vret rfl (by decide +kernel : decode cX4_take 145 = .ok (.return_, 1)), trivial⟩
def k_Gr_take (g : GG) : List (Nat × Blk) := [(0, b_Gr_take_0 g), (5, b_Gr_take_5 g), (20, b_Gr_take_20 g), (24, b_Gr_take_24 g), (30, b_Gr_take_30 g), (54, b_Gr_take_54 g), (55, b_Gr_take_55 g), (122, b_Gr_take_122 g), (144, b_Gr_take_144 g), (145, b_Gr_take_145 g)]
theorem ok_Gr_take (g : GG) (l : Launch) (hst : l.stackTraces = false) : ∀ b ∈ k_Gr_take g, BlkOk (m_Gr_take g l) b.1 b.2 := List.forall_mem_cons.mpr ⟨okb_Gr_take_0 g l hst, List.forall_mem_cons.mpr ⟨okb_Gr_take_5 g l hst, List.forall_mem_cons.mpr ⟨okb_Gr_take_20 g l hst, List.forall_mem_cons.mpr ⟨okb_Gr_take_24 g l hst, List.forall_mem_cons.mpr ⟨okb_Gr_take_30 g l hst, List.forall_mem_cons.mpr ⟨okb_Gr_take_54 g l hst, List.forall_mem_cons.mpr ⟨okb_Gr_take_55 g l hst, List.forall_mem_cons.mpr ⟨okb_Gr_take_122 g l hst, List.forall_mem_cons.mpr ⟨okb_Gr_take_144 g l hst, List.forall_mem_cons.mpr ⟨okb_Gr_take_145 g l hst, fun _ h => by cases h⟩⟩⟩⟩⟩⟩⟩⟩⟩⟩
def i_Gr_take (g : GG) : List (Nat × Blk) := [(24, b_Gr_take_24 g), (54, b_Gr_take_54 g), (145, b_Gr_take_145 g)]
theorem is_Gr_take (g : GG) : ∀ x ∈ i_Gr_take g, x ∈ k_Gr_take g := sub_at [3, 5, 9] rfl
theorem w_Gr_take_0 (g : GG) (u : Unit) (n : List Unit) (B : Bx) (Q : Option Value → AH → Prop) (X : String → AH → Prop) (lv : LV) (st : List Value) (f : AH) (bc bs : Nat) : wpF (i_Gr_take g) (u :: n) B Q X 0 lv st f bc bs = B 0 lv st f bc bs := (rfl)
theorem w_Gr_take_5 (g : GG) (u : Unit) (n : List Unit) (B : Bx) (Q : Option Value → AH → Prop) (X : String → AH → Prop) (lv : LV) (st : List Value) (f : AH) (bc bs : Nat) : wpF (i_Gr_take g) (u :: n) B Q X 5 lv st f bc bs = B 5 lv st f bc bs := (rfl)
theorem w_Gr_take_20 (g : GG) (u : Unit) (n : List Unit) (B : Bx) (Q : Option Value → AH → Prop) (X : String → AH → Prop) (lv : LV) (st : List Value) (f : AH) (bc bs : Nat) : wpF (i_Gr_take g) (u :: n) B Q X 20 lv st f bc bs = B 20 lv st f bc bs := (rfl)
theorem w_Gr_take_24 (g : GG) (u : Unit) (n : List Unit) (B : Bx) (Q : Option Value → AH → Prop) (X : String → AH → Prop) (lv : LV) (st : List Value) (f : AH) (bc bs : Nat) : wpF (i_Gr_take g) (u :: n) B Q X 24 lv st f bc bs = wpL (b_Gr_take_24 g) 24 lv st f bc bs (wpF (i_Gr_take g) n B Q X) Q X := (rfl)
theorem w_Gr_take_30 (g : GG) (u : Unit) (n : List Unit) (B : Bx) (Q : Option Value → AH → Prop) (X : String → AH → Prop) (lv : LV) (st : List Value) (f : AH) (bc bs : Nat) : wpF (i_Gr_take g) (u :: n) B Q X 30 lv st f bc bs = B 30 lv st f bc bs := (rfl)
theorem w_Gr_take_54 (g : GG) (u : Unit) (n : List Unit) (B : Bx) (Q : Option Value → AH → Prop) (X : String → AH → Prop) (lv : LV) (st : List Value) (f : AH) (bc bs : Nat) : wpF (i_Gr_take g) (u :: n) B Q X 54 lv st f bc bs = wpL (b_Gr_take_54 g) 54 lv st f bc bs (wpF (i_Gr_take g) n B Q X) Q X := (rfl)
theorem w_Gr_take_55 (g : GG) (u : Unit) (n : List Unit) (B : Bx) (Q : Option Value → AH → Prop) (X : String → AH → Prop) (lv : LV) (st : List Value) (f : AH) (bc bs : Nat) : wpF (i_Gr_take g) (u :: n) B Q X 55 lv st f bc bs = B 55 lv st f bc bs := (rfl)
theorem w_Gr_take_122 (g : GG) (u : Unit) (n : List Unit) (B : Bx) (Q : Option Value → AH → Prop) (X : String → AH → Prop) (lv : LV) (st : List Value) (f : AH) (bc bs : Nat) : wpF (i_Gr_take g) (u :: n) B Q X 122 lv st f bc bs = B 122 lv st f bc bs := (rfl)
theorem w_Gr_take_144 (g : GG) (u : Unit) (n : List Unit) (B : Bx) (Q : Option Value → AH → Prop) (X : String → AH → Prop) (lv : LV) (st : List Value) (f : AH) (bc bs : Nat) : wpF (i_Gr_take g) (u :: n) B Q X 144 lv st f bc bs = B 144 lv st f bc bs := (rfl)
theorem w_Gr_take_145 (g : GG) (u : Unit) (n : List Unit) (B : Bx) (Q : Option Value → AH → Prop) (X : String → AH → Prop) (lv : LV) (st : List Value) (f : AH) (bc bs : Nat) : wpF (i_Gr_take g) (u :: n) B Q X 145 lv st f bc bs = wpL (b_Gr_take_145 g) 145 lv st f bc bs (wpF (i_Gr_take g) n B Q X) Q X := (rfl)
set_option maxRecDepth 4000 in
set_option maxHeartbeats 4000000 in
theorem s_Gr_take (g : GG) (l : Launch) (hst : l.stackTraces = false) : Snd yX4_take (m_Gr_take g l) 0 0 (T_Gr_take g) := by
  refine snd_of (plainFor_of_name (by decide)) rfl (fun h => by first | rfl | cases h) rfl hst (k_Gr_take g) (ok_Gr_take g l hst) ?_
  rintro as f Q X ⟨O, ad, sh, V, L, o, k, m, rfl, hM, hk, hp, hq⟩
  refine ⟨[some (.ref (ad o)), some (.int k), some (.int m), none, none], rfl, Nat.le_of_ble_eq_true rfl, fun B run => ?_⟩
  obtain ⟨hG, hroom⟩ := hp
  have hG0 := hG
  obtain ⟨⟨n, hn, e⟩, hN⟩ := hG
  have hle := (gpl_le (V (o + 1)) k n 0).2
  have hx : gpX V o k = gpl (V (o + 1)) k n 0 := by rw [gpX, e, nn_nI (by omega)]
  rw [← hx] at hle
  clear hx
  rw [e, nn_nI (by omega)] at hroom
  obtain ⟨y, hy⟩ : ∃ y, y = gpX V o k := ⟨_, rfl⟩
  have hH : gHas V o k = (decide (y < n) && decide (V (o + 1) (6 * y) = k)) := by rw [gHas, e, nn_nI (by omega), ← hy]
  rw [grT, ← hy] at hq
  rw [← hy] at hle
  have hy' := hy.symm
  have hy9 : y < 10000 := by omega
  have tail : ∀ W : CV, 6 * y + 6 ≤ sh.N (o + 1) → (∀ f', CR g O f' ad sh (grA W o y m) L → Q none f') → ∀ f, CR g O f ad sh W L → ∀ x4, B 30 [some (.ref (ad o)), some (.int k), some (.int m), some (.int (nI y)), x4] [] f 0 0 := by
    clear hq hH hy hy' hroom e
    intro W hy6 hq f hM x4
    have h0 : ¬ nI (6 * y) < 0 := nI_pos (by omega)
    have h2 : nI (6 * y + 6) ≤ nI (sh.N (o + 1)) := nI_le hy6 (by omega)
    by_cases h1 : m = -1000
    · rw [grA, if_pos h1] at hq
      repeat (first | (refine hq _ ?_; exact hM) | (refine hx _ ?_; exact hM) | (refine i_Gr_placeOf_ hM ?_ ?_ fun f hM => ?_; (focus with_reducible assumption); (focus ((repeat' (first | assumption | omega | apply And.intro | rfl)); done))) | (refine i_Gr_cell_ hM ?_ ?_ fun f hM => ?_; (focus with_reducible assumption); (focus ((repeat' (first | assumption | omega | apply And.intro | rfl)); done))) | (refine i_Gr_insert_ hM ?_ ?_ fun f hM => ?_; (focus with_reducible assumption); (focus ((repeat' (first | assumption | omega | apply And.intro | rfl)); done))) | (refine i_Ma_min_ ?_) | (refine i_Ma_max_ ?_) | (refine run _ _ (i_Gr_take g) [(), (), (), ()] rfl (is_Gr_take g) _ _ _ _ _ ?_; (try simp only [Option.toList_some, Option.toList_none, List.cons_append, List.nil_append, List.append_nil]); simp -dsimp (disch := omega) only [nI_m6, h0, h2, nI_p4, nI_p5, nI_p6, eq_true h1, thr_n, wdC_n, wrC_n, tchC_n, wpF_0, c2_n, ↓e_callX, ↓e_callX0, ↓e_acpy, cR_s, cR_n, ↓hobj_c (hM.o5 hk), ↓hAI_c (hM.ai (kd_5_1 hk)), ↓hM.ai (kd_5_1 hk), c2_s, c2_n, eq_self, nI_dec, ixE, nI_4m, nI_16m, nI_10m, nI_2m, nI_add, nI_1, nI_p2, nI_p3, nI_pred, c3_n, c3_s, c3_i, upd_s, upd_n, rowU_n, rowU_ge, true_imp_iff, false_imp_iff, not_true_eq_false, not_false_eq_true, b2i_t, b2i_f, i32_10, i32_00, i32_11, ite_true_I, false_and, and_false, true_and, and_true, or_true, true_or, false_or, or_false, w_Gr_take_0, w_Gr_take_5, w_Gr_take_20, w_Gr_take_24, w_Gr_take_30, w_Gr_take_54, w_Gr_take_55, w_Gr_take_122, w_Gr_take_144, w_Gr_take_145, ↓b_Gr_take_0, ↓b_Gr_take_5, ↓b_Gr_take_20, ↓b_Gr_take_24, ↓b_Gr_take_30, ↓b_Gr_take_54, ↓b_Gr_take_55, ↓b_Gr_take_122, ↓b_Gr_take_144, ↓b_Gr_take_145, ↓wpL_n, ↓wpL_c, ↓e_iadd, ↓e_isub, ↓e_imul, ↓e_iand, ↓e_ior, ↓e_ixor, ↓e_ishl, ↓e_ishr, ↓e_iushr, ↓e_idiv, ↓e_irem, ↓e_ineg, ↓e_ladd, ↓e_lcmp, ↓e_i2l, ↓e_i2c, ↓e_i2d, ↓e_i2f, ↓e_l2f, ↓e_f2d, ↓e_fdiv, ↓e_ddiv, ↓e_dcmp_l, ↓e_fcmp_l, ↓e_dcmp_g, ↓e_fcmp_g, ↓e_push, ↓e_iload, ↓e_fload, ↓e_dload, ↓e_aload, ↓e_istore, ↓e_fstore, ↓e_astore, ↓e_iinc, ↓e_ifeq, ↓e_iceq, ↓e_ifne, ↓e_icne, ↓e_iflt, ↓e_iclt, ↓e_ifge, ↓e_icge, ↓e_ifgt, ↓e_icgt, ↓e_ifle, ↓e_icle, ↓e_goto, ↓e_dup, ↓e_pop, ↓e_dup_x1, ↓e_dup2, ↓e_getf, ↓e_putI, ↓e_putJ, ↓e_putC, ↓e_putR, ↓e_iald, ↓e_zald, ↓e_cald, ↓e_lald, ↓e_dald, ↓e_iast, ↓e_zast, ↓e_cast, ↓e_last, ↓e_dast, ↓e_aald, ↓e_alen, ↓e_throw, ↓e_iret, ↓e_zret, ↓e_cret, ↓e_aret, ↓e_lret, ↓e_fret, ↓e_dret, ↓e_vret, ↓e_new, ↓e_newarr, ↓e_pop1, ↓e_siald, ↓e_salen, ↓e_call, ↓e_callV, ↓e_callI, ↓e_call0, ↓e_callR, PI_e, PFl_e, PD_e, PR_e, PO_e, PHd_e, PA_e, PA_n, IX_e, IX_0, reduceIte, lget, lset, lclr, fget, ctake, cdrop, c1, Nat.reduceAdd, List.reverse_cons, List.reverse_nil, List.nil_append, List.cons_append, Option.toList_some, Option.toList_none, List.length_cons, List.length_nil, true_and, and_true, true_or, or_true, Nat.reduceLeDiff, Nat.reduceLT, Nat.zero_le, List.append_nil]) | refine ⟨_, rfl, by omega, by omega, ?_⟩ | (refine ⟨0, 0, rfl, rfl, ?_⟩) | (refine ⟨1, 6, rfl, rfl, ?_⟩) | (refine ⟨2, 12, rfl, rfl, ?_⟩) | (refine And.intro ?_ ?_; focus (first | exact b2i_01 _ | assumption | decide | (simp; done))) | (intro f e; (first | (refine CR.kai hM (kd_5_1 hk) e ?_ ?_ fun hM => ?_; (focus (first | with_reducible rfl | with_reducible assumption | (simp -dsimp (disch := omega) only [c2_n, c2_s, upd_s, upd_n, thr_n, wdC_n, wrC_n, tchC_n, wpF_0, c2_n, ↓e_callX, ↓e_callX0, ↓e_acpy, cR_s, cR_n]; done))); (focus (first | with_reducible rfl | with_reducible assumption | (simp -dsimp (disch := omega) only [c2_n, c2_s, upd_s, upd_n, thr_n, wdC_n, wrC_n, tchC_n, wpF_0, c2_n, ↓e_callX, ↓e_callX0, ↓e_acpy, cR_s, cR_n]; done))); clear e)); try simp -dsimp (disch := omega) only [nI_m6, h0, h2, nI_p4, nI_p5, nI_p6, eq_true h1, thr_n, wdC_n, wrC_n, tchC_n, wpF_0, c2_n, ↓e_callX, ↓e_callX0, ↓e_acpy, cR_s, cR_n, ↓hobj_c (hM.o5 hk), ↓hAI_c (hM.ai (kd_5_1 hk)), ↓hM.ai (kd_5_1 hk), c2_s, c2_n, eq_self, nI_dec, ixE, nI_4m, nI_16m, nI_10m, nI_2m, nI_add, nI_1, nI_p2, nI_p3, nI_pred, c3_n, c3_s, c3_i, upd_s, upd_n, rowU_n, rowU_ge, true_imp_iff, false_imp_iff, not_true_eq_false, not_false_eq_true, b2i_t, b2i_f, i32_10, i32_00, i32_11, ite_true_I, false_and, and_false, true_and, and_true, or_true, true_or, false_or, or_false, w_Gr_take_0, w_Gr_take_5, w_Gr_take_20, w_Gr_take_24, w_Gr_take_30, w_Gr_take_54, w_Gr_take_55, w_Gr_take_122, w_Gr_take_144, w_Gr_take_145, ↓b_Gr_take_0, ↓b_Gr_take_5, ↓b_Gr_take_20, ↓b_Gr_take_24, ↓b_Gr_take_30, ↓b_Gr_take_54, ↓b_Gr_take_55, ↓b_Gr_take_122, ↓b_Gr_take_144, ↓b_Gr_take_145, ↓wpL_n, ↓wpL_c, ↓e_iadd, ↓e_isub, ↓e_imul, ↓e_iand, ↓e_ior, ↓e_ixor, ↓e_ishl, ↓e_ishr, ↓e_iushr, ↓e_idiv, ↓e_irem, ↓e_ineg, ↓e_ladd, ↓e_lcmp, ↓e_i2l, ↓e_i2c, ↓e_i2d, ↓e_i2f, ↓e_l2f, ↓e_f2d, ↓e_fdiv, ↓e_ddiv, ↓e_dcmp_l, ↓e_fcmp_l, ↓e_dcmp_g, ↓e_fcmp_g, ↓e_push, ↓e_iload, ↓e_fload, ↓e_dload, ↓e_aload, ↓e_istore, ↓e_fstore, ↓e_astore, ↓e_iinc, ↓e_ifeq, ↓e_iceq, ↓e_ifne, ↓e_icne, ↓e_iflt, ↓e_iclt, ↓e_ifge, ↓e_icge, ↓e_ifgt, ↓e_icgt, ↓e_ifle, ↓e_icle, ↓e_goto, ↓e_dup, ↓e_pop, ↓e_dup_x1, ↓e_dup2, ↓e_getf, ↓e_putI, ↓e_putJ, ↓e_putC, ↓e_putR, ↓e_iald, ↓e_zald, ↓e_cald, ↓e_lald, ↓e_dald, ↓e_iast, ↓e_zast, ↓e_cast, ↓e_last, ↓e_dast, ↓e_aald, ↓e_alen, ↓e_throw, ↓e_iret, ↓e_zret, ↓e_cret, ↓e_aret, ↓e_lret, ↓e_fret, ↓e_dret, ↓e_vret, ↓e_new, ↓e_newarr, ↓e_pop1, ↓e_siald, ↓e_salen, ↓e_call, ↓e_callV, ↓e_callI, ↓e_call0, ↓e_callR, PI_e, PFl_e, PD_e, PR_e, PO_e, PHd_e, PA_e, PA_n, IX_e, IX_0, reduceIte, lget, lset, lclr, fget, ctake, cdrop, c1, Nat.reduceAdd, List.reverse_cons, List.reverse_nil, List.nil_append, List.cons_append, Option.toList_some, Option.toList_none, List.length_cons, List.length_nil, true_and, and_true, true_or, or_true, Nat.reduceLeDiff, Nat.reduceLT, Nat.zero_le, List.append_nil]))
    · rw [grA, if_neg h1] at hq
      repeat (first | (refine hq _ ?_; exact hM) | (refine hx _ ?_; exact hM) | (refine i_Gr_placeOf_ hM ?_ ?_ fun f hM => ?_; (focus with_reducible assumption); (focus ((repeat' (first | assumption | omega | apply And.intro | rfl)); done))) | (refine i_Gr_cell_ hM ?_ ?_ fun f hM => ?_; (focus with_reducible assumption); (focus ((repeat' (first | assumption | omega | apply And.intro | rfl)); done))) | (refine i_Gr_insert_ hM ?_ ?_ fun f hM => ?_; (focus with_reducible assumption); (focus ((repeat' (first | assumption | omega | apply And.intro | rfl)); done))) | (refine i_Ma_min_ ?_) | (refine i_Ma_max_ ?_) | (refine run _ _ (i_Gr_take g) [(), (), (), ()] rfl (is_Gr_take g) _ _ _ _ _ ?_; (try simp only [Option.toList_some, Option.toList_none, List.cons_append, List.nil_append, List.append_nil]); simp -dsimp (disch := omega) only [nI_m6, h0, h2, nI_p4, nI_p5, nI_p6, h1, thr_n, wdC_n, wrC_n, tchC_n, wpF_0, c2_n, ↓e_callX, ↓e_callX0, ↓e_acpy, cR_s, cR_n, ↓hobj_c (hM.o5 hk), ↓hAI_c (hM.ai (kd_5_1 hk)), ↓hM.ai (kd_5_1 hk), c2_s, c2_n, eq_self, nI_dec, ixE, nI_4m, nI_16m, nI_10m, nI_2m, nI_add, nI_1, nI_p2, nI_p3, nI_pred, c3_n, c3_s, c3_i, upd_s, upd_n, rowU_n, rowU_ge, true_imp_iff, false_imp_iff, not_true_eq_false, not_false_eq_true, b2i_t, b2i_f, i32_10, i32_00, i32_11, ite_true_I, false_and, and_false, true_and, and_true, or_true, true_or, false_or, or_false, w_Gr_take_0, w_Gr_take_5, w_Gr_take_20, w_Gr_take_24, w_Gr_take_30, w_Gr_take_54, w_Gr_take_55, w_Gr_take_122, w_Gr_take_144, w_Gr_take_145, ↓b_Gr_take_0, ↓b_Gr_take_5, ↓b_Gr_take_20, ↓b_Gr_take_24, ↓b_Gr_take_30, ↓b_Gr_take_54, ↓b_Gr_take_55, ↓b_Gr_take_122, ↓b_Gr_take_144, ↓b_Gr_take_145, ↓wpL_n, ↓wpL_c, ↓e_iadd, ↓e_isub, ↓e_imul, ↓e_iand, ↓e_ior, ↓e_ixor, ↓e_ishl, ↓e_ishr, ↓e_iushr, ↓e_idiv, ↓e_irem, ↓e_ineg, ↓e_ladd, ↓e_lcmp, ↓e_i2l, ↓e_i2c, ↓e_i2d, ↓e_i2f, ↓e_l2f, ↓e_f2d, ↓e_fdiv, ↓e_ddiv, ↓e_dcmp_l, ↓e_fcmp_l, ↓e_dcmp_g, ↓e_fcmp_g, ↓e_push, ↓e_iload, ↓e_fload, ↓e_dload, ↓e_aload, ↓e_istore, ↓e_fstore, ↓e_astore, ↓e_iinc, ↓e_ifeq, ↓e_iceq, ↓e_ifne, ↓e_icne, ↓e_iflt, ↓e_iclt, ↓e_ifge, ↓e_icge, ↓e_ifgt, ↓e_icgt, ↓e_ifle, ↓e_icle, ↓e_goto, ↓e_dup, ↓e_pop, ↓e_dup_x1, ↓e_dup2, ↓e_getf, ↓e_putI, ↓e_putJ, ↓e_putC, ↓e_putR, ↓e_iald, ↓e_zald, ↓e_cald, ↓e_lald, ↓e_dald, ↓e_iast, ↓e_zast, ↓e_cast, ↓e_last, ↓e_dast, ↓e_aald, ↓e_alen, ↓e_throw, ↓e_iret, ↓e_zret, ↓e_cret, ↓e_aret, ↓e_lret, ↓e_fret, ↓e_dret, ↓e_vret, ↓e_new, ↓e_newarr, ↓e_pop1, ↓e_siald, ↓e_salen, ↓e_call, ↓e_callV, ↓e_callI, ↓e_call0, ↓e_callR, PI_e, PFl_e, PD_e, PR_e, PO_e, PHd_e, PA_e, PA_n, IX_e, IX_0, reduceIte, lget, lset, lclr, fget, ctake, cdrop, c1, Nat.reduceAdd, List.reverse_cons, List.reverse_nil, List.nil_append, List.cons_append, Option.toList_some, Option.toList_none, List.length_cons, List.length_nil, true_and, and_true, true_or, or_true, Nat.reduceLeDiff, Nat.reduceLT, Nat.zero_le, List.append_nil]) | refine ⟨_, rfl, by omega, by omega, ?_⟩ | (refine ⟨0, 0, rfl, rfl, ?_⟩) | (refine ⟨1, 6, rfl, rfl, ?_⟩) | (refine ⟨2, 12, rfl, rfl, ?_⟩) | (refine And.intro ?_ ?_; focus (first | exact b2i_01 _ | assumption | decide | (simp; done))) | (intro f e; (first | (refine CR.kai hM (kd_5_1 hk) e ?_ ?_ fun hM => ?_; (focus (first | with_reducible rfl | with_reducible assumption | (simp -dsimp (disch := omega) only [c2_n, c2_s, upd_s, upd_n, thr_n, wdC_n, wrC_n, tchC_n, wpF_0, c2_n, ↓e_callX, ↓e_callX0, ↓e_acpy, cR_s, cR_n]; done))); (focus (first | with_reducible rfl | with_reducible assumption | (simp -dsimp (disch := omega) only [c2_n, c2_s, upd_s, upd_n, thr_n, wdC_n, wrC_n, tchC_n, wpF_0, c2_n, ↓e_callX, ↓e_callX0, ↓e_acpy, cR_s, cR_n]; done))); clear e)); try simp -dsimp (disch := omega) only [nI_m6, h0, h2, nI_p4, nI_p5, nI_p6, h1, thr_n, wdC_n, wrC_n, tchC_n, wpF_0, c2_n, ↓e_callX, ↓e_callX0, ↓e_acpy, cR_s, cR_n, ↓hobj_c (hM.o5 hk), ↓hAI_c (hM.ai (kd_5_1 hk)), ↓hM.ai (kd_5_1 hk), c2_s, c2_n, eq_self, nI_dec, ixE, nI_4m, nI_16m, nI_10m, nI_2m, nI_add, nI_1, nI_p2, nI_p3, nI_pred, c3_n, c3_s, c3_i, upd_s, upd_n, rowU_n, rowU_ge, true_imp_iff, false_imp_iff, not_true_eq_false, not_false_eq_true, b2i_t, b2i_f, i32_10, i32_00, i32_11, ite_true_I, false_and, and_false, true_and, and_true, or_true, true_or, false_or, or_false, w_Gr_take_0, w_Gr_take_5, w_Gr_take_20, w_Gr_take_24, w_Gr_take_30, w_Gr_take_54, w_Gr_take_55, w_Gr_take_122, w_Gr_take_144, w_Gr_take_145, ↓b_Gr_take_0, ↓b_Gr_take_5, ↓b_Gr_take_20, ↓b_Gr_take_24, ↓b_Gr_take_30, ↓b_Gr_take_54, ↓b_Gr_take_55, ↓b_Gr_take_122, ↓b_Gr_take_144, ↓b_Gr_take_145, ↓wpL_n, ↓wpL_c, ↓e_iadd, ↓e_isub, ↓e_imul, ↓e_iand, ↓e_ior, ↓e_ixor, ↓e_ishl, ↓e_ishr, ↓e_iushr, ↓e_idiv, ↓e_irem, ↓e_ineg, ↓e_ladd, ↓e_lcmp, ↓e_i2l, ↓e_i2c, ↓e_i2d, ↓e_i2f, ↓e_l2f, ↓e_f2d, ↓e_fdiv, ↓e_ddiv, ↓e_dcmp_l, ↓e_fcmp_l, ↓e_dcmp_g, ↓e_fcmp_g, ↓e_push, ↓e_iload, ↓e_fload, ↓e_dload, ↓e_aload, ↓e_istore, ↓e_fstore, ↓e_astore, ↓e_iinc, ↓e_ifeq, ↓e_iceq, ↓e_ifne, ↓e_icne, ↓e_iflt, ↓e_iclt, ↓e_ifge, ↓e_icge, ↓e_ifgt, ↓e_icgt, ↓e_ifle, ↓e_icle, ↓e_goto, ↓e_dup, ↓e_pop, ↓e_dup_x1, ↓e_dup2, ↓e_getf, ↓e_putI, ↓e_putJ, ↓e_putC, ↓e_putR, ↓e_iald, ↓e_zald, ↓e_cald, ↓e_lald, ↓e_dald, ↓e_iast, ↓e_zast, ↓e_cast, ↓e_last, ↓e_dast, ↓e_aald, ↓e_alen, ↓e_throw, ↓e_iret, ↓e_zret, ↓e_cret, ↓e_aret, ↓e_lret, ↓e_fret, ↓e_dret, ↓e_vret, ↓e_new, ↓e_newarr, ↓e_pop1, ↓e_siald, ↓e_salen, ↓e_call, ↓e_callV, ↓e_callI, ↓e_call0, ↓e_callR, PI_e, PFl_e, PD_e, PR_e, PO_e, PHd_e, PA_e, PA_n, IX_e, IX_0, reduceIte, lget, lset, lclr, fget, ctake, cdrop, c1, Nat.reduceAdd, List.reverse_cons, List.reverse_nil, List.nil_append, List.cons_append, Option.toList_some, Option.toList_none, List.length_cons, List.length_nil, true_and, and_true, true_or, or_true, Nat.reduceLeDiff, Nat.reduceLT, Nat.zero_le, List.append_nil]))
  cases hH2 : gHas V o k
  · have hr := hroom hH2
    rw [hH2] at hq hH
    simp only [Bool.false_eq_true, if_false] at hq
    have tail := tail _ (by omega) hq
    clear hq
    have ins : ∃ n, y ≤ n ∧ 6 * n + 6 ≤ sh.N (o + 1) ∧ V o 1 = nI n ∧ sh.N (o + 1) ≤ 960 := ⟨n, by omega, hr, e, hN⟩
    rcases Nat.lt_or_ge y n with h1 | h1
    · have h2 : ¬ nI n ≤ nI y := nI_ge h1 (by omega)
      have hce : gCe sh V o y 0 = V (o + 1) (6 * y) := gCe_lt (by omega)
      have h3 : ¬ V (o + 1) (6 * y) = k := by
        intro z
        rw [decide_eq_true h1, decide_eq_true z] at hH
        exact absurd hH (by decide)
      repeat (first | (refine hq _ ?_; exact hM) | (refine hx _ ?_; exact hM) | (refine i_Gr_placeOf_ hM hk hG0 fun f hM => ?_; rw [hy']) | (refine i_Gr_cell_ (w := 0) hM hk ⟨hy9, by omega, hN⟩ fun f hM => ?_) | (refine i_Gr_insert_ hM hk ins fun f hM => ?_) | exact tail _ hM _ | (refine i_Gr_placeOf_ hM ?_ ?_ fun f hM => ?_; (focus with_reducible assumption); (focus ((repeat' (first | assumption | omega | apply And.intro | rfl)); done))) | (refine i_Gr_cell_ hM ?_ ?_ fun f hM => ?_; (focus with_reducible assumption); (focus ((repeat' (first | assumption | omega | apply And.intro | rfl)); done))) | (refine i_Gr_insert_ hM ?_ ?_ fun f hM => ?_; (focus with_reducible assumption); (focus ((repeat' (first | assumption | omega | apply And.intro | rfl)); done))) | (refine i_Ma_min_ ?_) | (refine i_Ma_max_ ?_) | (refine run _ _ (i_Gr_take g) [(), (), (), ()] rfl (is_Gr_take g) _ _ _ _ _ ?_; (try simp only [Option.toList_some, Option.toList_none, List.cons_append, List.nil_append, List.append_nil]); simp -dsimp (disch := omega) only [e, h2, hce, h3, thr_n, wdC_n, wrC_n, tchC_n, wpF_0, c2_n, ↓e_callX, ↓e_callX0, ↓e_acpy, cR_s, cR_n, ↓hobj_c (hM.o5 hk), ↓hAI_c (hM.ai (kd_5_1 hk)), ↓hM.ai (kd_5_1 hk), c2_s, c2_n, eq_self, nI_dec, ixE, nI_4m, nI_16m, nI_10m, nI_2m, nI_add, nI_1, nI_p2, nI_p3, nI_pred, c3_n, c3_s, c3_i, upd_s, upd_n, rowU_n, rowU_ge, true_imp_iff, false_imp_iff, not_true_eq_false, not_false_eq_true, b2i_t, b2i_f, i32_10, i32_00, i32_11, ite_true_I, false_and, and_false, true_and, and_true, or_true, true_or, false_or, or_false, w_Gr_take_0, w_Gr_take_5, w_Gr_take_20, w_Gr_take_24, w_Gr_take_30, w_Gr_take_54, w_Gr_take_55, w_Gr_take_122, w_Gr_take_144, w_Gr_take_145, ↓b_Gr_take_0, ↓b_Gr_take_5, ↓b_Gr_take_20, ↓b_Gr_take_24, ↓b_Gr_take_30, ↓b_Gr_take_54, ↓b_Gr_take_55, ↓b_Gr_take_122, ↓b_Gr_take_144, ↓b_Gr_take_145, ↓wpL_n, ↓wpL_c, ↓e_iadd, ↓e_isub, ↓e_imul, ↓e_iand, ↓e_ior, ↓e_ixor, ↓e_ishl, ↓e_ishr, ↓e_iushr, ↓e_idiv, ↓e_irem, ↓e_ineg, ↓e_ladd, ↓e_lcmp, ↓e_i2l, ↓e_i2c, ↓e_i2d, ↓e_i2f, ↓e_l2f, ↓e_f2d, ↓e_fdiv, ↓e_ddiv, ↓e_dcmp_l, ↓e_fcmp_l, ↓e_dcmp_g, ↓e_fcmp_g, ↓e_push, ↓e_iload, ↓e_fload, ↓e_dload, ↓e_aload, ↓e_istore, ↓e_fstore, ↓e_astore, ↓e_iinc, ↓e_ifeq, ↓e_iceq, ↓e_ifne, ↓e_icne, ↓e_iflt, ↓e_iclt, ↓e_ifge, ↓e_icge, ↓e_ifgt, ↓e_icgt, ↓e_ifle, ↓e_icle, ↓e_goto, ↓e_dup, ↓e_pop, ↓e_dup_x1, ↓e_dup2, ↓e_getf, ↓e_putI, ↓e_putJ, ↓e_putC, ↓e_putR, ↓e_iald, ↓e_zald, ↓e_cald, ↓e_lald, ↓e_dald, ↓e_iast, ↓e_zast, ↓e_cast, ↓e_last, ↓e_dast, ↓e_aald, ↓e_alen, ↓e_throw, ↓e_iret, ↓e_zret, ↓e_cret, ↓e_aret, ↓e_lret, ↓e_fret, ↓e_dret, ↓e_vret, ↓e_new, ↓e_newarr, ↓e_pop1, ↓e_siald, ↓e_salen, ↓e_call, ↓e_callV, ↓e_callI, ↓e_call0, ↓e_callR, PI_e, PFl_e, PD_e, PR_e, PO_e, PHd_e, PA_e, PA_n, IX_e, IX_0, reduceIte, lget, lset, lclr, fget, ctake, cdrop, c1, Nat.reduceAdd, List.reverse_cons, List.reverse_nil, List.nil_append, List.cons_append, Option.toList_some, Option.toList_none, List.length_cons, List.length_nil, true_and, and_true, true_or, or_true, Nat.reduceLeDiff, Nat.reduceLT, Nat.zero_le, List.append_nil]) | refine ⟨_, rfl, by omega, by omega, ?_⟩ | (refine ⟨0, 0, rfl, rfl, ?_⟩) | (refine ⟨1, 6, rfl, rfl, ?_⟩) | (refine ⟨2, 12, rfl, rfl, ?_⟩) | (refine And.intro ?_ ?_; focus (first | exact b2i_01 _ | assumption | decide | (simp; done))) | (intro f e; (first | (refine CR.kai hM (kd_5_1 hk) e ?_ ?_ fun hM => ?_; (focus (first | with_reducible rfl | with_reducible assumption | (simp -dsimp (disch := omega) only [c2_n, c2_s, upd_s, upd_n, thr_n, wdC_n, wrC_n, tchC_n, wpF_0, c2_n, ↓e_callX, ↓e_callX0, ↓e_acpy, cR_s, cR_n]; done))); (focus (first | with_reducible rfl | with_reducible assumption | (simp -dsimp (disch := omega) only [c2_n, c2_s, upd_s, upd_n, thr_n, wdC_n, wrC_n, tchC_n, wpF_0, c2_n, ↓e_callX, ↓e_callX0, ↓e_acpy, cR_s, cR_n]; done))); clear e)); try simp -dsimp (disch := omega) only [e, h2, hce, h3, thr_n, wdC_n, wrC_n, tchC_n, wpF_0, c2_n, ↓e_callX, ↓e_callX0, ↓e_acpy, cR_s, cR_n, ↓hobj_c (hM.o5 hk), ↓hAI_c (hM.ai (kd_5_1 hk)), ↓hM.ai (kd_5_1 hk), c2_s, c2_n, eq_self, nI_dec, ixE, nI_4m, nI_16m, nI_10m, nI_2m, nI_add, nI_1, nI_p2, nI_p3, nI_pred, c3_n, c3_s, c3_i, upd_s, upd_n, rowU_n, rowU_ge, true_imp_iff, false_imp_iff, not_true_eq_false, not_false_eq_true, b2i_t, b2i_f, i32_10, i32_00, i32_11, ite_true_I, false_and, and_false, true_and, and_true, or_true, true_or, false_or, or_false, w_Gr_take_0, w_Gr_take_5, w_Gr_take_20, w_Gr_take_24, w_Gr_take_30, w_Gr_take_54, w_Gr_take_55, w_Gr_take_122, w_Gr_take_144, w_Gr_take_145, ↓b_Gr_take_0, ↓b_Gr_take_5, ↓b_Gr_take_20, ↓b_Gr_take_24, ↓b_Gr_take_30, ↓b_Gr_take_54, ↓b_Gr_take_55, ↓b_Gr_take_122, ↓b_Gr_take_144, ↓b_Gr_take_145, ↓wpL_n, ↓wpL_c, ↓e_iadd, ↓e_isub, ↓e_imul, ↓e_iand, ↓e_ior, ↓e_ixor, ↓e_ishl, ↓e_ishr, ↓e_iushr, ↓e_idiv, ↓e_irem, ↓e_ineg, ↓e_ladd, ↓e_lcmp, ↓e_i2l, ↓e_i2c, ↓e_i2d, ↓e_i2f, ↓e_l2f, ↓e_f2d, ↓e_fdiv, ↓e_ddiv, ↓e_dcmp_l, ↓e_fcmp_l, ↓e_dcmp_g, ↓e_fcmp_g, ↓e_push, ↓e_iload, ↓e_fload, ↓e_dload, ↓e_aload, ↓e_istore, ↓e_fstore, ↓e_astore, ↓e_iinc, ↓e_ifeq, ↓e_iceq, ↓e_ifne, ↓e_icne, ↓e_iflt, ↓e_iclt, ↓e_ifge, ↓e_icge, ↓e_ifgt, ↓e_icgt, ↓e_ifle, ↓e_icle, ↓e_goto, ↓e_dup, ↓e_pop, ↓e_dup_x1, ↓e_dup2, ↓e_getf, ↓e_putI, ↓e_putJ, ↓e_putC, ↓e_putR, ↓e_iald, ↓e_zald, ↓e_cald, ↓e_lald, ↓e_dald, ↓e_iast, ↓e_zast, ↓e_cast, ↓e_last, ↓e_dast, ↓e_aald, ↓e_alen, ↓e_throw, ↓e_iret, ↓e_zret, ↓e_cret, ↓e_aret, ↓e_lret, ↓e_fret, ↓e_dret, ↓e_vret, ↓e_new, ↓e_newarr, ↓e_pop1, ↓e_siald, ↓e_salen, ↓e_call, ↓e_callV, ↓e_callI, ↓e_call0, ↓e_callR, PI_e, PFl_e, PD_e, PR_e, PO_e, PHd_e, PA_e, PA_n, IX_e, IX_0, reduceIte, lget, lset, lclr, fget, ctake, cdrop, c1, Nat.reduceAdd, List.reverse_cons, List.reverse_nil, List.nil_append, List.cons_append, Option.toList_some, Option.toList_none, List.length_cons, List.length_nil, true_and, and_true, true_or, or_true, Nat.reduceLeDiff, Nat.reduceLT, Nat.zero_le, List.append_nil]))
    · have h2 : nI n ≤ nI y := nI_le h1 (by omega)
      repeat (first | (refine hq _ ?_; exact hM) | (refine hx _ ?_; exact hM) | (refine i_Gr_placeOf_ hM hk hG0 fun f hM => ?_; rw [hy']) | (refine i_Gr_insert_ hM hk ins fun f hM => ?_) | exact tail _ hM _ | (refine i_Gr_placeOf_ hM ?_ ?_ fun f hM => ?_; (focus with_reducible assumption); (focus ((repeat' (first | assumption | omega | apply And.intro | rfl)); done))) | (refine i_Gr_cell_ hM ?_ ?_ fun f hM => ?_; (focus with_reducible assumption); (focus ((repeat' (first | assumption | omega | apply And.intro | rfl)); done))) | (refine i_Gr_insert_ hM ?_ ?_ fun f hM => ?_; (focus with_reducible assumption); (focus ((repeat' (first | assumption | omega | apply And.intro | rfl)); done))) | (refine i_Ma_min_ ?_) | (refine i_Ma_max_ ?_) | (refine run _ _ (i_Gr_take g) [(), (), (), ()] rfl (is_Gr_take g) _ _ _ _ _ ?_; (try simp only [Option.toList_some, Option.toList_none, List.cons_append, List.nil_append, List.append_nil]); simp -dsimp (disch := omega) only [e, h2, thr_n, wdC_n, wrC_n, tchC_n, wpF_0, c2_n, ↓e_callX, ↓e_callX0, ↓e_acpy, cR_s, cR_n, ↓hobj_c (hM.o5 hk), ↓hAI_c (hM.ai (kd_5_1 hk)), ↓hM.ai (kd_5_1 hk), c2_s, c2_n, eq_self, nI_dec, ixE, nI_4m, nI_16m, nI_10m, nI_2m, nI_add, nI_1, nI_p2, nI_p3, nI_pred, c3_n, c3_s, c3_i, upd_s, upd_n, rowU_n, rowU_ge, true_imp_iff, false_imp_iff, not_true_eq_false, not_false_eq_true, b2i_t, b2i_f, i32_10, i32_00, i32_11, ite_true_I, false_and, and_false, true_and, and_true, or_true, true_or, false_or, or_false, w_Gr_take_0, w_Gr_take_5, w_Gr_take_20, w_Gr_take_24, w_Gr_take_30, w_Gr_take_54, w_Gr_take_55, w_Gr_take_122, w_Gr_take_144, w_Gr_take_145, ↓b_Gr_take_0, ↓b_Gr_take_5, ↓b_Gr_take_20, ↓b_Gr_take_24, ↓b_Gr_take_30, ↓b_Gr_take_54, ↓b_Gr_take_55, ↓b_Gr_take_122, ↓b_Gr_take_144, ↓b_Gr_take_145, ↓wpL_n, ↓wpL_c, ↓e_iadd, ↓e_isub, ↓e_imul, ↓e_iand, ↓e_ior, ↓e_ixor, ↓e_ishl, ↓e_ishr, ↓e_iushr, ↓e_idiv, ↓e_irem, ↓e_ineg, ↓e_ladd, ↓e_lcmp, ↓e_i2l, ↓e_i2c, ↓e_i2d, ↓e_i2f, ↓e_l2f, ↓e_f2d, ↓e_fdiv, ↓e_ddiv, ↓e_dcmp_l, ↓e_fcmp_l, ↓e_dcmp_g, ↓e_fcmp_g, ↓e_push, ↓e_iload, ↓e_fload, ↓e_dload, ↓e_aload, ↓e_istore, ↓e_fstore, ↓e_astore, ↓e_iinc, ↓e_ifeq, ↓e_iceq, ↓e_ifne, ↓e_icne, ↓e_iflt, ↓e_iclt, ↓e_ifge, ↓e_icge, ↓e_ifgt, ↓e_icgt, ↓e_ifle, ↓e_icle, ↓e_goto, ↓e_dup, ↓e_pop, ↓e_dup_x1, ↓e_dup2, ↓e_getf, ↓e_putI, ↓e_putJ, ↓e_putC, ↓e_putR, ↓e_iald, ↓e_zald, ↓e_cald, ↓e_lald, ↓e_dald, ↓e_iast, ↓e_zast, ↓e_cast, ↓e_last, ↓e_dast, ↓e_aald, ↓e_alen, ↓e_throw, ↓e_iret, ↓e_zret, ↓e_cret, ↓e_aret, ↓e_lret, ↓e_fret, ↓e_dret, ↓e_vret, ↓e_new, ↓e_newarr, ↓e_pop1, ↓e_siald, ↓e_salen, ↓e_call, ↓e_callV, ↓e_callI, ↓e_call0, ↓e_callR, PI_e, PFl_e, PD_e, PR_e, PO_e, PHd_e, PA_e, PA_n, IX_e, IX_0, reduceIte, lget, lset, lclr, fget, ctake, cdrop, c1, Nat.reduceAdd, List.reverse_cons, List.reverse_nil, List.nil_append, List.cons_append, Option.toList_some, Option.toList_none, List.length_cons, List.length_nil, true_and, and_true, true_or, or_true, Nat.reduceLeDiff, Nat.reduceLT, Nat.zero_le, List.append_nil]) | refine ⟨_, rfl, by omega, by omega, ?_⟩ | (refine ⟨0, 0, rfl, rfl, ?_⟩) | (refine ⟨1, 6, rfl, rfl, ?_⟩) | (refine ⟨2, 12, rfl, rfl, ?_⟩) | (refine And.intro ?_ ?_; focus (first | exact b2i_01 _ | assumption | decide | (simp; done))) | (intro f e; (first | (refine CR.kai hM (kd_5_1 hk) e ?_ ?_ fun hM => ?_; (focus (first | with_reducible rfl | with_reducible assumption | (simp -dsimp (disch := omega) only [c2_n, c2_s, upd_s, upd_n, thr_n, wdC_n, wrC_n, tchC_n, wpF_0, c2_n, ↓e_callX, ↓e_callX0, ↓e_acpy, cR_s, cR_n]; done))); (focus (first | with_reducible rfl | with_reducible assumption | (simp -dsimp (disch := omega) only [c2_n, c2_s, upd_s, upd_n, thr_n, wdC_n, wrC_n, tchC_n, wpF_0, c2_n, ↓e_callX, ↓e_callX0, ↓e_acpy, cR_s, cR_n]; done))); clear e)); try simp -dsimp (disch := omega) only [e, h2, thr_n, wdC_n, wrC_n, tchC_n, wpF_0, c2_n, ↓e_callX, ↓e_callX0, ↓e_acpy, cR_s, cR_n, ↓hobj_c (hM.o5 hk), ↓hAI_c (hM.ai (kd_5_1 hk)), ↓hM.ai (kd_5_1 hk), c2_s, c2_n, eq_self, nI_dec, ixE, nI_4m, nI_16m, nI_10m, nI_2m, nI_add, nI_1, nI_p2, nI_p3, nI_pred, c3_n, c3_s, c3_i, upd_s, upd_n, rowU_n, rowU_ge, true_imp_iff, false_imp_iff, not_true_eq_false, not_false_eq_true, b2i_t, b2i_f, i32_10, i32_00, i32_11, ite_true_I, false_and, and_false, true_and, and_true, or_true, true_or, false_or, or_false, w_Gr_take_0, w_Gr_take_5, w_Gr_take_20, w_Gr_take_24, w_Gr_take_30, w_Gr_take_54, w_Gr_take_55, w_Gr_take_122, w_Gr_take_144, w_Gr_take_145, ↓b_Gr_take_0, ↓b_Gr_take_5, ↓b_Gr_take_20, ↓b_Gr_take_24, ↓b_Gr_take_30, ↓b_Gr_take_54, ↓b_Gr_take_55, ↓b_Gr_take_122, ↓b_Gr_take_144, ↓b_Gr_take_145, ↓wpL_n, ↓wpL_c, ↓e_iadd, ↓e_isub, ↓e_imul, ↓e_iand, ↓e_ior, ↓e_ixor, ↓e_ishl, ↓e_ishr, ↓e_iushr, ↓e_idiv, ↓e_irem, ↓e_ineg, ↓e_ladd, ↓e_lcmp, ↓e_i2l, ↓e_i2c, ↓e_i2d, ↓e_i2f, ↓e_l2f, ↓e_f2d, ↓e_fdiv, ↓e_ddiv, ↓e_dcmp_l, ↓e_fcmp_l, ↓e_dcmp_g, ↓e_fcmp_g, ↓e_push, ↓e_iload, ↓e_fload, ↓e_dload, ↓e_aload, ↓e_istore, ↓e_fstore, ↓e_astore, ↓e_iinc, ↓e_ifeq, ↓e_iceq, ↓e_ifne, ↓e_icne, ↓e_iflt, ↓e_iclt, ↓e_ifge, ↓e_icge, ↓e_ifgt, ↓e_icgt, ↓e_ifle, ↓e_icle, ↓e_goto, ↓e_dup, ↓e_pop, ↓e_dup_x1, ↓e_dup2, ↓e_getf, ↓e_putI, ↓e_putJ, ↓e_putC, ↓e_putR, ↓e_iald, ↓e_zald, ↓e_cald, ↓e_lald, ↓e_dald, ↓e_iast, ↓e_zast, ↓e_cast, ↓e_last, ↓e_dast, ↓e_aald, ↓e_alen, ↓e_throw, ↓e_iret, ↓e_zret, ↓e_cret, ↓e_aret, ↓e_lret, ↓e_fret, ↓e_dret, ↓e_vret, ↓e_new, ↓e_newarr, ↓e_pop1, ↓e_siald, ↓e_salen, ↓e_call, ↓e_callV, ↓e_callI, ↓e_call0, ↓e_callR, PI_e, PFl_e, PD_e, PR_e, PO_e, PHd_e, PA_e, PA_n, IX_e, IX_0, reduceIte, lget, lset, lclr, fget, ctake, cdrop, c1, Nat.reduceAdd, List.reverse_cons, List.reverse_nil, List.nil_append, List.cons_append, Option.toList_some, Option.toList_none, List.length_cons, List.length_nil, true_and, and_true, true_or, or_true, Nat.reduceLeDiff, Nat.reduceLT, Nat.zero_le, List.append_nil]))
  · rw [hH2] at hq hH
    simp only [if_true] at hq
    have hH3 := hH.symm
    simp only [Bool.and_eq_true, decide_eq_true_eq] at hH3
    obtain ⟨h1, h3⟩ := hH3
    have tail := tail _ (by omega) hq
    clear hq
    have h2 : ¬ nI n ≤ nI y := nI_ge h1 (by omega)
    have hce : gCe sh V o y 0 = V (o + 1) (6 * y) := gCe_lt (by omega)
    repeat (first | (refine hq _ ?_; exact hM) | (refine hx _ ?_; exact hM) | (refine i_Gr_placeOf_ hM hk hG0 fun f hM => ?_; rw [hy']) | (refine i_Gr_cell_ (w := 0) hM hk ⟨hy9, by omega, hN⟩ fun f hM => ?_) | exact tail _ hM _ | (refine i_Gr_placeOf_ hM ?_ ?_ fun f hM => ?_; (focus with_reducible assumption); (focus ((repeat' (first | assumption | omega | apply And.intro | rfl)); done))) | (refine i_Gr_cell_ hM ?_ ?_ fun f hM => ?_; (focus with_reducible assumption); (focus ((repeat' (first | assumption | omega | apply And.intro | rfl)); done))) | (refine i_Gr_insert_ hM ?_ ?_ fun f hM => ?_; (focus with_reducible assumption); (focus ((repeat' (first | assumption | omega | apply And.intro | rfl)); done))) | (refine i_Ma_min_ ?_) | (refine i_Ma_max_ ?_) | (refine run _ _ (i_Gr_take g) [(), (), (), ()] rfl (is_Gr_take g) _ _ _ _ _ ?_; (try simp only [Option.toList_some, Option.toList_none, List.cons_append, List.nil_append, List.append_nil]); simp -dsimp (disch := omega) only [e, h2, hce, eq_true h3, thr_n, wdC_n, wrC_n, tchC_n, wpF_0, c2_n, ↓e_callX, ↓e_callX0, ↓e_acpy, cR_s, cR_n, ↓hobj_c (hM.o5 hk), ↓hAI_c (hM.ai (kd_5_1 hk)), ↓hM.ai (kd_5_1 hk), c2_s, c2_n, eq_self, nI_dec, ixE, nI_4m, nI_16m, nI_10m, nI_2m, nI_add, nI_1, nI_p2, nI_p3, nI_pred, c3_n, c3_s, c3_i, upd_s, upd_n, rowU_n, rowU_ge, true_imp_iff, false_imp_iff, not_true_eq_false, not_false_eq_true, b2i_t, b2i_f, i32_10, i32_00, i32_11, ite_true_I, false_and, and_false, true_and, and_true, or_true, true_or, false_or, or_false, w_Gr_take_0, w_Gr_take_5, w_Gr_take_20, w_Gr_take_24, w_Gr_take_30, w_Gr_take_54, w_Gr_take_55, w_Gr_take_122, w_Gr_take_144, w_Gr_take_145, ↓b_Gr_take_0, ↓b_Gr_take_5, ↓b_Gr_take_20, ↓b_Gr_take_24, ↓b_Gr_take_30, ↓b_Gr_take_54, ↓b_Gr_take_55, ↓b_Gr_take_122, ↓b_Gr_take_144, ↓b_Gr_take_145, ↓wpL_n, ↓wpL_c, ↓e_iadd, ↓e_isub, ↓e_imul, ↓e_iand, ↓e_ior, ↓e_ixor, ↓e_ishl, ↓e_ishr, ↓e_iushr, ↓e_idiv, ↓e_irem, ↓e_ineg, ↓e_ladd, ↓e_lcmp, ↓e_i2l, ↓e_i2c, ↓e_i2d, ↓e_i2f, ↓e_l2f, ↓e_f2d, ↓e_fdiv, ↓e_ddiv, ↓e_dcmp_l, ↓e_fcmp_l, ↓e_dcmp_g, ↓e_fcmp_g, ↓e_push, ↓e_iload, ↓e_fload, ↓e_dload, ↓e_aload, ↓e_istore, ↓e_fstore, ↓e_astore, ↓e_iinc, ↓e_ifeq, ↓e_iceq, ↓e_ifne, ↓e_icne, ↓e_iflt, ↓e_iclt, ↓e_ifge, ↓e_icge, ↓e_ifgt, ↓e_icgt, ↓e_ifle, ↓e_icle, ↓e_goto, ↓e_dup, ↓e_pop, ↓e_dup_x1, ↓e_dup2, ↓e_getf, ↓e_putI, ↓e_putJ, ↓e_putC, ↓e_putR, ↓e_iald, ↓e_zald, ↓e_cald, ↓e_lald, ↓e_dald, ↓e_iast, ↓e_zast, ↓e_cast, ↓e_last, ↓e_dast, ↓e_aald, ↓e_alen, ↓e_throw, ↓e_iret, ↓e_zret, ↓e_cret, ↓e_aret, ↓e_lret, ↓e_fret, ↓e_dret, ↓e_vret, ↓e_new, ↓e_newarr, ↓e_pop1, ↓e_siald, ↓e_salen, ↓e_call, ↓e_callV, ↓e_callI, ↓e_call0, ↓e_callR, PI_e, PFl_e, PD_e, PR_e, PO_e, PHd_e, PA_e, PA_n, IX_e, IX_0, reduceIte, lget, lset, lclr, fget, ctake, cdrop, c1, Nat.reduceAdd, List.reverse_cons, List.reverse_nil, List.nil_append, List.cons_append, Option.toList_some, Option.toList_none, List.length_cons, List.length_nil, true_and, and_true, true_or, or_true, Nat.reduceLeDiff, Nat.reduceLT, Nat.zero_le, List.append_nil]) | refine ⟨_, rfl, by omega, by omega, ?_⟩ | (refine ⟨0, 0, rfl, rfl, ?_⟩) | (refine ⟨1, 6, rfl, rfl, ?_⟩) | (refine ⟨2, 12, rfl, rfl, ?_⟩) | (refine And.intro ?_ ?_; focus (first | exact b2i_01 _ | assumption | decide | (simp; done))) | (intro f e; (first | (refine CR.kai hM (kd_5_1 hk) e ?_ ?_ fun hM => ?_; (focus (first | with_reducible rfl | with_reducible assumption | (simp -dsimp (disch := omega) only [c2_n, c2_s, upd_s, upd_n, thr_n, wdC_n, wrC_n, tchC_n, wpF_0, c2_n, ↓e_callX, ↓e_callX0, ↓e_acpy, cR_s, cR_n]; done))); (focus (first | with_reducible rfl | with_reducible assumption | (simp -dsimp (disch := omega) only [c2_n, c2_s, upd_s, upd_n, thr_n, wdC_n, wrC_n, tchC_n, wpF_0, c2_n, ↓e_callX, ↓e_callX0, ↓e_acpy, cR_s, cR_n]; done))); clear e)); try simp -dsimp (disch := omega) only [e, h2, hce, eq_true h3, thr_n, wdC_n, wrC_n, tchC_n, wpF_0, c2_n, ↓e_callX, ↓e_callX0, ↓e_acpy, cR_s, cR_n, ↓hobj_c (hM.o5 hk), ↓hAI_c (hM.ai (kd_5_1 hk)), ↓hM.ai (kd_5_1 hk), c2_s, c2_n, eq_self, nI_dec, ixE, nI_4m, nI_16m, nI_10m, nI_2m, nI_add, nI_1, nI_p2, nI_p3, nI_pred, c3_n, c3_s, c3_i, upd_s, upd_n, rowU_n, rowU_ge, true_imp_iff, false_imp_iff, not_true_eq_false, not_false_eq_true, b2i_t, b2i_f, i32_10, i32_00, i32_11, ite_true_I, false_and, and_false, true_and, and_true, or_true, true_or, false_or, or_false, w_Gr_take_0, w_Gr_take_5, w_Gr_take_20, w_Gr_take_24, w_Gr_take_30, w_Gr_take_54, w_Gr_take_55, w_Gr_take_122, w_Gr_take_144, w_Gr_take_145, ↓b_Gr_take_0, ↓b_Gr_take_5, ↓b_Gr_take_20, ↓b_Gr_take_24, ↓b_Gr_take_30, ↓b_Gr_take_54, ↓b_Gr_take_55, ↓b_Gr_take_122, ↓b_Gr_take_144, ↓b_Gr_take_145, ↓wpL_n, ↓wpL_c, ↓e_iadd, ↓e_isub, ↓e_imul, ↓e_iand, ↓e_ior, ↓e_ixor, ↓e_ishl, ↓e_ishr, ↓e_iushr, ↓e_idiv, ↓e_irem, ↓e_ineg, ↓e_ladd, ↓e_lcmp, ↓e_i2l, ↓e_i2c, ↓e_i2d, ↓e_i2f, ↓e_l2f, ↓e_f2d, ↓e_fdiv, ↓e_ddiv, ↓e_dcmp_l, ↓e_fcmp_l, ↓e_dcmp_g, ↓e_fcmp_g, ↓e_push, ↓e_iload, ↓e_fload, ↓e_dload, ↓e_aload, ↓e_istore, ↓e_fstore, ↓e_astore, ↓e_iinc, ↓e_ifeq, ↓e_iceq, ↓e_ifne, ↓e_icne, ↓e_iflt, ↓e_iclt, ↓e_ifge, ↓e_icge, ↓e_ifgt, ↓e_icgt, ↓e_ifle, ↓e_icle, ↓e_goto, ↓e_dup, ↓e_pop, ↓e_dup_x1, ↓e_dup2, ↓e_getf, ↓e_putI, ↓e_putJ, ↓e_putC, ↓e_putR, ↓e_iald, ↓e_zald, ↓e_cald, ↓e_lald, ↓e_dald, ↓e_iast, ↓e_zast, ↓e_cast, ↓e_last, ↓e_dast, ↓e_aald, ↓e_alen, ↓e_throw, ↓e_iret, ↓e_zret, ↓e_cret, ↓e_aret, ↓e_lret, ↓e_fret, ↓e_dret, ↓e_vret, ↓e_new, ↓e_newarr, ↓e_pop1, ↓e_siald, ↓e_salen, ↓e_call, ↓e_callV, ↓e_callI, ↓e_call0, ↓e_callR, PI_e, PFl_e, PD_e, PR_e, PO_e, PHd_e, PA_e, PA_n, IX_e, IX_0, reduceIte, lget, lset, lclr, fget, ctake, cdrop, c1, Nat.reduceAdd, List.reverse_cons, List.reverse_nil, List.nil_append, List.cons_append, Option.toList_some, Option.toList_none, List.length_cons, List.length_nil, true_and, and_true, true_or, or_true, Nat.reduceLeDiff, Nat.reduceLT, Nat.zero_le, List.append_nil]))
def lkW (sh : Sh) (V : CV) (o q i : Nat) : Nat → Bool
  | 0 => true
  | w + 1 => lkW sh V o q i w && decide (gCe sh V o i w = gCe sh V q i w)
def lkI (sh : Sh) (V : CV) (o q : Nat) : Nat → Bool
  | 0 => true
  | i + 1 => lkI sh V o q i && lkW sh V o q i 6
theorem lkW_f {sh : Sh} {V : CV} {o q i w : Nat} : ∀ n, w < n → ¬ gCe sh V o i w = gCe sh V q i w → lkW sh V o q i n = false
  | n + 1, h, hn => by
    rw [lkW]
    rcases Nat.lt_or_eq_of_le (Nat.le_of_lt_succ h) with h | rfl
    · rw [lkW_f n h hn, Bool.false_and]
    · rw [decide_eq_false hn, Bool.and_false]
theorem lkI_f {sh : Sh} {V : CV} {o q i : Nat} : ∀ n, i < n → lkW sh V o q i 6 = false → lkI sh V o q n = false
  | n + 1, h, hn => by
    rw [lkI]
    rcases Nat.lt_or_eq_of_le (Nat.le_of_lt_succ h) with h | rfl
    · rw [lkI_f n h hn, Bool.false_and]
    · rw [hn, Bool.and_false]
def gLk (sh : Sh) (V : CV) (o q : Nat) : Bool := decide (V o 1 = V q 1) && lkI sh V o q (nn (V o 1))
def T_Gr_isLike (g : GG) : Spec2 := fun as f Q X => ∃ (O : AH) (ad : Nat → Nat) (sh : Sh) (V : CV) (L : Int64) (o : Nat) (q : Nat), as = [.ref (ad o), .ref (ad q)] ∧ CR g O f ad sh V L ∧ kd sh o = 5 ∧ (kd sh q = 5 ∧ GrOk sh V o ∧ sh.N (q + 1) ≤ 960) ∧ ∀ f', CR g O f' ad sh (V) (L) → Q (some (.int (b2i (gLk sh V o q)))) f'
theorem i_Gr_isLike_ {g : GG} {O : AH} {ad : Nat → Nat} {sh : Sh} {V : CV} {L : Int64} {o : Nat} {q : Nat} {f : AH} {Q : Option Value → AH → Prop} {X : String → AH → Prop} (hM : CR g O f ad sh V L) (hk : kd sh o = 5) (hp : kd sh q = 5 ∧ GrOk sh V o ∧ sh.N (q + 1) ≤ 960) (h : ∀ f', CR g O f' ad sh (V) (L) → Q (some (.int (b2i (gLk sh V o q)))) f') : T_Gr_isLike g [.ref (ad o), .ref (ad q)] f Q X := ⟨O, ad, sh, V, L, o, q, rfl, hM, hk, hp, h⟩
theorem j_Gr_isLike_ {g : GG} {O : AH} {ad : Nat → Nat} {sh : Sh} {V : CV} {L : Int64} {o : Nat} {q : Nat} {f : AH} {Q : Option Value → AH → Prop} {X : String → AH → Prop} (hM : CR g O f ad sh V L) (hk : kd sh o = 5) (hp : kd sh q = 5 ∧ GrOk sh V o ∧ sh.N (q + 1) ≤ 960) {b : Bool} (hb : (gLk sh V o q) = b) (h : ∀ f', CR g O f' ad sh (V) (L) → Q (some (.int (b2i b))) f') : T_Gr_isLike g [.ref (ad o), .ref (ad q)] f Q X := by subst hb; exact i_Gr_isLike_ hM hk hp h
abbrev m_Gr_isLike (g : GG) (l : Launch) : MI := (RX4, cX4_isLike, 4, (some .boolean), [], false, 2, g, l)
def b_Gr_isLike_0 (g : GG) : Blk := [(1, o_aload 0), (3, o_getf 5 1), (1, o_aload 1), (3, o_getf 5 1), (3, o_iceq 13), (1, o_push (.int 0)), (1, o_zret)]
def b_Gr_isLike_13 (g : GG) : Blk := [(1, o_push (.int 0)), (1, o_istore 2)]
def b_Gr_isLike_15 (g : GG) : Blk := [(1, o_iload 2), (1, o_aload 0), (3, o_getf 5 1), (3, o_icge 60), (1, o_push (.int 0)), (1, o_istore 3)]
def b_Gr_isLike_25 (g : GG) : Blk := [(1, o_iload 3), (2, o_push (.int 6)), (3, o_icge 54), (1, o_aload 0), (1, o_iload 2), (1, o_iload 3), (3, o_callR (o_call0 (T_Gr_cell g) 3) 5 3)]
def b_Gr_isLike_37 (g : GG) : Blk := [(1, o_aload 1), (1, o_iload 2), (1, o_iload 3), (3, o_callR (o_call0 (T_Gr_cell g) 3) 5 3)]
def b_Gr_isLike_43 (g : GG) : Blk := [(3, o_iceq 48), (1, o_push (.int 0)), (1, o_zret)]
def b_Gr_isLike_48 (g : GG) : Blk := [(3, o_iinc 3 1), (3, o_goto 25)]
def b_Gr_isLike_54 (g : GG) : Blk := [(3, o_iinc 2 1), (3, o_goto 15)]
def b_Gr_isLike_60 (g : GG) : Blk := [(1, o_push (.int 1)), (1, o_zret)]
set_option maxRecDepth 8000 in
theorem okb_Gr_isLike_0 (g : GG) (l : Launch) (hst : l.stackTraces = false) : BlkOk (m_Gr_isLike g l) 0 (b_Gr_isLike_0 g) := 
  ⟨ok_aload_n (by decide +kernel : decode cX4_isLike 0 = .ok (.aload_n 0, 1)) rfl,
  ⟨ok_getf cls_5 (Nat.le_of_ble_eq_true rfl) tw_137 rfl (by decide +kernel : decode cX4_isLike 1 = .ok (.getfield 15, 3)),
  ⟨ok_aload_n (by decide +kernel : decode cX4_isLike 4 = .ok (.aload_n 1, 1)) rfl,
  ⟨ok_getf cls_5 (Nat.le_of_ble_eq_true rfl) tw_137 rfl (by decide +kernel : decode cX4_isLike 5 = .ok (.getfield 15, 3)),
  ⟨ok_iceq (by decide) (by decide +kernel : decode cX4_isLike 8 = .ok (.if_icmp .eq 5, 3)),
  ⟨ok_iconst (by decide) (by decide +kernel : decode cX4_isLike 11 = .ok (.iconst 0, 1)),
  ⟨ok_zret rfl (by decide +kernel : decode cX4_isLike 12 = .ok (.ireturn, 1)), trivial⟩⟩⟩⟩⟩⟩⟩
set_option maxRecDepth 8000 in
theorem okb_Gr_isLike_13 (g : GG) (l : Launch) (hst : l.stackTraces = false) : BlkOk (m_Gr_isLike g l) 13 (b_Gr_isLike_13 g) := 
  ⟨ok_iconst (by decide) (by decide +kernel : decode cX4_isLike 13 = .ok (.iconst 0, 1)),
  ⟨ok_istore_n rfl (Nat.le_of_ble_eq_true rfl) (by decide +kernel : decode cX4_isLike 14 = .ok (.istore_n 2, 1)), trivial⟩⟩
set_option maxRecDepth 8000 in
theorem okb_Gr_isLike_15 (g : GG) (l : Launch) (hst : l.stackTraces = false) : BlkOk (m_Gr_isLike g l) 15 (b_Gr_isLike_15 g) := 
  ⟨ok_iload_n (by decide +kernel : decode cX4_isLike 15 = .ok (.iload_n 2, 1)) rfl,
  ⟨ok_aload_n (by decide +kernel : decode cX4_isLike 16 = .ok (.aload_n 0, 1)) rfl,
  ⟨ok_getf cls_5 (Nat.le_of_ble_eq_true rfl) tw_137 rfl (by decide +kernel : decode cX4_isLike 17 = .ok (.getfield 15, 3)),
  ⟨ok_icge (by decide) (by decide +kernel : decode cX4_isLike 20 = .ok (.if_icmp .ge 40, 3)),
  ⟨ok_iconst (by decide) (by decide +kernel : decode cX4_isLike 23 = .ok (.iconst 0, 1)),
  ⟨ok_istore_n rfl (Nat.le_of_ble_eq_true rfl) (by decide +kernel : decode cX4_isLike 24 = .ok (.istore_n 3, 1)), trivial⟩⟩⟩⟩⟩⟩
set_option maxRecDepth 8000 in
theorem okb_Gr_isLike_25 (g : GG) (l : Launch) (hst : l.stackTraces = false) : BlkOk (m_Gr_isLike g l) 25 (b_Gr_isLike_25 g) := 
  ⟨ok_iload_n (by decide +kernel : decode cX4_isLike 25 = .ok (.iload_n 3, 1)) rfl,
  ⟨ok_bipush (by decide) (by decide +kernel : decode cX4_isLike 26 = .ok (.bipush 6, 2)),
  ⟨ok_icge (by decide) (by decide +kernel : decode cX4_isLike 28 = .ok (.if_icmp .ge 26, 3)),
  ⟨ok_aload_n (by decide +kernel : decode cX4_isLike 31 = .ok (.aload_n 0, 1)) rfl,
  ⟨ok_iload_n (by decide +kernel : decode cX4_isLike 32 = .ok (.iload_n 2, 1)) rfl,
  ⟨ok_iload_n (by decide +kernel : decode cX4_isLike 33 = .ok (.iload_n 3, 1)) rfl,
  ⟨(ok_callV (k := 2) cls_5 (s_Gr_cell g l hst) (show 1 < 2 from by decide) (Nat.le_of_ble_eq_true rfl) rfl rfl tw_352 tw_353 tw_354 tw_8 tw_355 ⟨by decide, by decide, by decide⟩ (by decide +kernel : decode cX4_isLike 34 = .ok (.invokevirtual 23, 3))).mono callR0_of, trivial⟩⟩⟩⟩⟩⟩⟩
set_option maxRecDepth 8000 in
theorem okb_Gr_isLike_37 (g : GG) (l : Launch) (hst : l.stackTraces = false) : BlkOk (m_Gr_isLike g l) 37 (b_Gr_isLike_37 g) := 
  ⟨ok_aload_n (by decide +kernel : decode cX4_isLike 37 = .ok (.aload_n 1, 1)) rfl,
  ⟨ok_iload_n (by decide +kernel : decode cX4_isLike 38 = .ok (.iload_n 2, 1)) rfl,
  ⟨ok_iload_n (by decide +kernel : decode cX4_isLike 39 = .ok (.iload_n 3, 1)) rfl,
  ⟨(ok_callV (k := 2) cls_5 (s_Gr_cell g l hst) (show 1 < 2 from by decide) (Nat.le_of_ble_eq_true rfl) rfl rfl tw_352 tw_353 tw_354 tw_8 tw_355 ⟨by decide, by decide, by decide⟩ (by decide +kernel : decode cX4_isLike 40 = .ok (.invokevirtual 23, 3))).mono callR0_of, trivial⟩⟩⟩⟩
set_option maxRecDepth 8000 in
theorem okb_Gr_isLike_43 (g : GG) (l : Launch) (hst : l.stackTraces = false) : BlkOk (m_Gr_isLike g l) 43 (b_Gr_isLike_43 g) := 
  ⟨ok_iceq (by decide) (by decide +kernel : decode cX4_isLike 43 = .ok (.if_icmp .eq 5, 3)),
  ⟨ok_iconst (by decide) (by decide +kernel : decode cX4_isLike 46 = .ok (.iconst 0, 1)),
  ⟨ok_zret rfl (by decide +kernel : decode cX4_isLike 47 = .ok (.ireturn, 1)), trivial⟩⟩⟩
set_option maxRecDepth 8000 in
theorem okb_Gr_isLike_48 (g : GG) (l : Launch) (hst : l.stackTraces = false) : BlkOk (m_Gr_isLike g l) 48 (b_Gr_isLike_48 g) := 
  ⟨ok_iinc (by decide) (Nat.le_of_ble_eq_true rfl) (by decide +kernel : decode cX4_isLike 48 = .ok (.iinc 3 1, 3)),
  ⟨ok_goto (by decide) (by decide +kernel : decode cX4_isLike 51 = .ok (.goto (-26), 3)), trivial⟩⟩
set_option maxRecDepth 8000 in
theorem okb_Gr_isLike_54 (g : GG) (l : Launch) (hst : l.stackTraces = false) : BlkOk (m_Gr_isLike g l) 54 (b_Gr_isLike_54 g) := 
  ⟨ok_iinc (by decide) (Nat.le_of_ble_eq_true rfl) (by decide +kernel : decode cX4_isLike 54 = .ok (.iinc 2 1, 3)),
  ⟨ok_goto (by decide) (by decide +kernel : decode cX4_isLike 57 = .ok (.goto (-42), 3)), trivial⟩⟩
set_option maxRecDepth 8000 in
theorem okb_Gr_isLike_60 (g : GG) (l : Launch) (hst : l.stackTraces = false) : BlkOk (m_Gr_isLike g l) 60 (b_Gr_isLike_60 g) := 
  ⟨ok_iconst (by decide) (by decide +kernel : decode cX4_isLike 60 = .ok (.iconst 1, 1)),
  ⟨ok_zret rfl (by decide +kernel : decode cX4_isLike 61 = .ok (.ireturn, 1)), trivial⟩⟩
def k_Gr_isLike (g : GG) : List (Nat × Blk) := [(0, b_Gr_isLike_0 g), (13, b_Gr_isLike_13 g), (15, b_Gr_isLike_15 g), (25, b_Gr_isLike_25 g), (37, b_Gr_isLike_37 g), (43, b_Gr_isLike_43 g), (48, b_Gr_isLike_48 g), (54, b_Gr_isLike_54 g), (60, b_Gr_isLike_60 g)]
theorem ok_Gr_isLike (g : GG) (l : Launch) (hst : l.stackTraces = false) : ∀ b ∈ k_Gr_isLike g, BlkOk (m_Gr_isLike g l) b.1 b.2 := List.forall_mem_cons.mpr ⟨okb_Gr_isLike_0 g l hst, List.forall_mem_cons.mpr ⟨okb_Gr_isLike_13 g l hst, List.forall_mem_cons.mpr ⟨okb_Gr_isLike_15 g l hst, List.forall_mem_cons.mpr ⟨okb_Gr_isLike_25 g l hst, List.forall_mem_cons.mpr ⟨okb_Gr_isLike_37 g l hst, List.forall_mem_cons.mpr ⟨okb_Gr_isLike_43 g l hst, List.forall_mem_cons.mpr ⟨okb_Gr_isLike_48 g l hst, List.forall_mem_cons.mpr ⟨okb_Gr_isLike_54 g l hst, List.forall_mem_cons.mpr ⟨okb_Gr_isLike_60 g l hst, fun _ h => by cases h⟩⟩⟩⟩⟩⟩⟩⟩⟩
def i_Gr_isLike (g : GG) : List (Nat × Blk) := [(13, b_Gr_isLike_13 g), (48, b_Gr_isLike_48 g), (54, b_Gr_isLike_54 g), (60, b_Gr_isLike_60 g)]
theorem is_Gr_isLike (g : GG) : ∀ x ∈ i_Gr_isLike g, x ∈ k_Gr_isLike g := sub_at [1, 6, 7, 8] rfl
theorem w_Gr_isLike_0 (g : GG) (u : Unit) (n : List Unit) (B : Bx) (Q : Option Value → AH → Prop) (X : String → AH → Prop) (lv : LV) (st : List Value) (f : AH) (bc bs : Nat) : wpF (i_Gr_isLike g) (u :: n) B Q X 0 lv st f bc bs = B 0 lv st f bc bs := (rfl)
theorem w_Gr_isLike_13 (g : GG) (u : Unit) (n : List Unit) (B : Bx) (Q : Option Value → AH → Prop) (X : String → AH → Prop) (lv : LV) (st : List Value) (f : AH) (bc bs : Nat) : wpF (i_Gr_isLike g) (u :: n) B Q X 13 lv st f bc bs = wpL (b_Gr_isLike_13 g) 13 lv st f bc bs (wpF (i_Gr_isLike g) n B Q X) Q X := (rfl)
theorem w_Gr_isLike_15 (g : GG) (u : Unit) (n : List Unit) (B : Bx) (Q : Option Value → AH → Prop) (X : String → AH → Prop) (lv : LV) (st : List Value) (f : AH) (bc bs : Nat) : wpF (i_Gr_isLike g) (u :: n) B Q X 15 lv st f bc bs = B 15 lv st f bc bs := (rfl)
theorem w_Gr_isLike_25 (g : GG) (u : Unit) (n : List Unit) (B : Bx) (Q : Option Value → AH → Prop) (X : String → AH → Prop) (lv : LV) (st : List Value) (f : AH) (bc bs : Nat) : wpF (i_Gr_isLike g) (u :: n) B Q X 25 lv st f bc bs = B 25 lv st f bc bs := (rfl)
theorem w_Gr_isLike_37 (g : GG) (u : Unit) (n : List Unit) (B : Bx) (Q : Option Value → AH → Prop) (X : String → AH → Prop) (lv : LV) (st : List Value) (f : AH) (bc bs : Nat) : wpF (i_Gr_isLike g) (u :: n) B Q X 37 lv st f bc bs = B 37 lv st f bc bs := (rfl)
theorem w_Gr_isLike_43 (g : GG) (u : Unit) (n : List Unit) (B : Bx) (Q : Option Value → AH → Prop) (X : String → AH → Prop) (lv : LV) (st : List Value) (f : AH) (bc bs : Nat) : wpF (i_Gr_isLike g) (u :: n) B Q X 43 lv st f bc bs = B 43 lv st f bc bs := (rfl)
theorem w_Gr_isLike_48 (g : GG) (u : Unit) (n : List Unit) (B : Bx) (Q : Option Value → AH → Prop) (X : String → AH → Prop) (lv : LV) (st : List Value) (f : AH) (bc bs : Nat) : wpF (i_Gr_isLike g) (u :: n) B Q X 48 lv st f bc bs = wpL (b_Gr_isLike_48 g) 48 lv st f bc bs (wpF (i_Gr_isLike g) n B Q X) Q X := (rfl)
theorem w_Gr_isLike_54 (g : GG) (u : Unit) (n : List Unit) (B : Bx) (Q : Option Value → AH → Prop) (X : String → AH → Prop) (lv : LV) (st : List Value) (f : AH) (bc bs : Nat) : wpF (i_Gr_isLike g) (u :: n) B Q X 54 lv st f bc bs = wpL (b_Gr_isLike_54 g) 54 lv st f bc bs (wpF (i_Gr_isLike g) n B Q X) Q X := (rfl)
theorem w_Gr_isLike_60 (g : GG) (u : Unit) (n : List Unit) (B : Bx) (Q : Option Value → AH → Prop) (X : String → AH → Prop) (lv : LV) (st : List Value) (f : AH) (bc bs : Nat) : wpF (i_Gr_isLike g) (u :: n) B Q X 60 lv st f bc bs = wpL (b_Gr_isLike_60 g) 60 lv st f bc bs (wpF (i_Gr_isLike g) n B Q X) Q X := (rfl)
set_option maxRecDepth 4000 in
set_option maxHeartbeats 4000000 in
theorem s_Gr_isLike (g : GG) (l : Launch) (hst : l.stackTraces = false) : Snd yX4_isLike (m_Gr_isLike g l) 0 0 (T_Gr_isLike g) := by
  refine snd_of (plainFor_of_name (by decide)) rfl (fun h => by first | rfl | cases h) rfl hst (k_Gr_isLike g) (ok_Gr_isLike g l hst) ?_
  rintro as f Q X ⟨O, ad, sh, V, L, o, q, rfl, hM, hk, hp, hq⟩
  refine ⟨[some (.ref (ad o)), some (.ref (ad q)), none, none], rfl, Nat.le_of_ble_eq_true rfl, fun B run => ?_⟩
  obtain ⟨hkq, ⟨⟨n, hn, e⟩, hN⟩, hNq⟩ := hp
  by_cases h1 : V o 1 = V q 1
  · rw [gLk, decide_eq_true h1, Bool.true_and, e, nn_nI (by omega)] at hq
    have eq1 : V q 1 = nI n := by rw [← h1, e]
    have inner : ∀ y, y < n → (lkI sh V o q y = true) → ∀ x9, (∀ f, CR g O f ad sh V L → lkI sh V o q (y + 1) = true → B 15 [some (.ref (ad o)), some (.ref (ad q)), some (.int (nI (y + 1))), x9] [] f 0 0) → x9 = some (.int (nI 6)) → ∀ m w, w + m = 6 → lkW sh V o q y w = true → ∀ f, CR g O f ad sh V L → B 25 [some (.ref (ad o)), some (.ref (ad q)), some (.int (nI y)), some (.int (nI w))] [] f 0 0 := by
      intro y hy hI x9 hout e9 m
      subst e9
      have hy9 : y < 10000 := by omega
      induction m with
      | zero =>
        intro w e9 hW f hM
        rw [Nat.add_zero] at e9
        subst e9
        clear hq
        have hout := fun f hM => hout f hM (by rw [lkI, hI, hW]; rfl)
        repeat (first | (refine hq _ ?_; exact hM) | (refine hx _ ?_; exact hM) | exact hout _ hM | (refine i_Gr_cell_ hM ?_ ?_ fun f hM => ?_; (focus with_reducible assumption); (focus ((repeat' (first | assumption | omega | apply And.intro | rfl)); done))) | (refine run _ _ (i_Gr_isLike g) [(), (), (), (), ()] rfl (is_Gr_isLike g) _ _ _ _ _ ?_; (try simp only [Option.toList_some, Option.toList_none, List.cons_append, List.nil_append, List.append_nil]); simp -dsimp (disch := omega) only [show (6 : Int32) ≤ nI 6 from by decide, thr_n, wdC_n, wrC_n, tchC_n, wpF_0, c2_n, ↓e_callX, ↓e_callX0, ↓e_acpy, cR_s, cR_n, ↓hobj_c (hM.o5 hk), ↓hAI_c (hM.ai (kd_5_1 hk)), c2_s, c2_n, eq_self, nI_dec, ixE, nI_4m, nI_16m, nI_10m, nI_2m, nI_add, nI_1, nI_p2, nI_p3, nI_pred, c3_n, c3_s, c3_i, upd_s, upd_n, rowU_n, rowU_ge, true_imp_iff, false_imp_iff, not_true_eq_false, not_false_eq_true, b2i_t, b2i_f, i32_10, i32_00, i32_11, ite_true_I, false_and, and_false, true_and, and_true, or_true, true_or, false_or, or_false, w_Gr_isLike_0, w_Gr_isLike_13, w_Gr_isLike_15, w_Gr_isLike_25, w_Gr_isLike_37, w_Gr_isLike_43, w_Gr_isLike_48, w_Gr_isLike_54, w_Gr_isLike_60, ↓b_Gr_isLike_0, ↓b_Gr_isLike_13, ↓b_Gr_isLike_15, ↓b_Gr_isLike_25, ↓b_Gr_isLike_37, ↓b_Gr_isLike_43, ↓b_Gr_isLike_48, ↓b_Gr_isLike_54, ↓b_Gr_isLike_60, ↓wpL_n, ↓wpL_c, ↓e_iadd, ↓e_isub, ↓e_imul, ↓e_iand, ↓e_ior, ↓e_ixor, ↓e_ishl, ↓e_ishr, ↓e_iushr, ↓e_idiv, ↓e_irem, ↓e_ineg, ↓e_ladd, ↓e_lcmp, ↓e_i2l, ↓e_i2c, ↓e_i2d, ↓e_i2f, ↓e_l2f, ↓e_f2d, ↓e_fdiv, ↓e_ddiv, ↓e_dcmp_l, ↓e_fcmp_l, ↓e_dcmp_g, ↓e_fcmp_g, ↓e_push, ↓e_iload, ↓e_fload, ↓e_dload, ↓e_aload, ↓e_istore, ↓e_fstore, ↓e_astore, ↓e_iinc, ↓e_ifeq, ↓e_iceq, ↓e_ifne, ↓e_icne, ↓e_iflt, ↓e_iclt, ↓e_ifge, ↓e_icge, ↓e_ifgt, ↓e_icgt, ↓e_ifle, ↓e_icle, ↓e_goto, ↓e_dup, ↓e_pop, ↓e_dup_x1, ↓e_dup2, ↓e_getf, ↓e_putI, ↓e_putJ, ↓e_putC, ↓e_putR, ↓e_iald, ↓e_zald, ↓e_cald, ↓e_lald, ↓e_dald, ↓e_iast, ↓e_zast, ↓e_cast, ↓e_last, ↓e_dast, ↓e_aald, ↓e_alen, ↓e_throw, ↓e_iret, ↓e_zret, ↓e_cret, ↓e_aret, ↓e_lret, ↓e_fret, ↓e_dret, ↓e_vret, ↓e_new, ↓e_newarr, ↓e_pop1, ↓e_siald, ↓e_salen, ↓e_call, ↓e_callV, ↓e_callI, ↓e_call0, ↓e_callR, PI_e, PFl_e, PD_e, PR_e, PO_e, PHd_e, PA_e, PA_n, IX_e, IX_0, reduceIte, lget, lset, lclr, fget, ctake, cdrop, c1, Nat.reduceAdd, List.reverse_cons, List.reverse_nil, List.nil_append, List.cons_append, Option.toList_some, Option.toList_none, List.length_cons, List.length_nil, true_and, and_true, true_or, or_true, Nat.reduceLeDiff, Nat.reduceLT, Nat.zero_le, List.append_nil]) | refine ⟨_, rfl, by omega, by omega, ?_⟩ | (refine ⟨0, 0, rfl, rfl, ?_⟩) | (refine ⟨1, 6, rfl, rfl, ?_⟩) | (refine ⟨2, 12, rfl, rfl, ?_⟩) | (refine And.intro ?_ ?_; focus (first | exact b2i_01 _ | assumption | decide | (simp; done))))
      | succ m ih =>
        intro w e9 hW f hM
        have hw6 : w < 6 := by omega
        have h6 : ¬ (6 : Int32) ≤ nI w := nI_ge (b := 6) (by omega) (by omega)
        have ih := ih (w + 1) (by omega)
        by_cases h2 : gCe sh V o y w = gCe sh V q y w
        · have ih := ih (by rw [lkW, hW, decide_eq_true h2]; rfl)
          clear hq
          repeat (first | (refine hq _ ?_; exact hM) | (refine hx _ ?_; exact hM) | exact ih _ hM | (refine i_Gr_cell_ hM ?_ ?_ fun f hM => ?_; (focus with_reducible assumption); (focus ((repeat' (first | assumption | omega | apply And.intro | rfl)); done))) | (refine run _ _ (i_Gr_isLike g) [(), (), (), (), ()] rfl (is_Gr_isLike g) _ _ _ _ _ ?_; (try simp only [Option.toList_some, Option.toList_none, List.cons_append, List.nil_append, List.append_nil]); simp -dsimp (disch := omega) only [h6, eq_true h2, thr_n, wdC_n, wrC_n, tchC_n, wpF_0, c2_n, ↓e_callX, ↓e_callX0, ↓e_acpy, cR_s, cR_n, ↓hobj_c (hM.o5 hk), ↓hAI_c (hM.ai (kd_5_1 hk)), ↓hobj_c (hM.o5 hkq), ↓hAI_c (hM.ai (kd_5_1 hkq)), c2_s, c2_n, eq_self, nI_dec, ixE, nI_4m, nI_16m, nI_10m, nI_2m, nI_add, nI_1, nI_p2, nI_p3, nI_pred, c3_n, c3_s, c3_i, upd_s, upd_n, rowU_n, rowU_ge, true_imp_iff, false_imp_iff, not_true_eq_false, not_false_eq_true, b2i_t, b2i_f, i32_10, i32_00, i32_11, ite_true_I, false_and, and_false, true_and, and_true, or_true, true_or, false_or, or_false, w_Gr_isLike_0, w_Gr_isLike_13, w_Gr_isLike_15, w_Gr_isLike_25, w_Gr_isLike_37, w_Gr_isLike_43, w_Gr_isLike_48, w_Gr_isLike_54, w_Gr_isLike_60, ↓b_Gr_isLike_0, ↓b_Gr_isLike_13, ↓b_Gr_isLike_15, ↓b_Gr_isLike_25, ↓b_Gr_isLike_37, ↓b_Gr_isLike_43, ↓b_Gr_isLike_48, ↓b_Gr_isLike_54, ↓b_Gr_isLike_60, ↓wpL_n, ↓wpL_c, ↓e_iadd, ↓e_isub, ↓e_imul, ↓e_iand, ↓e_ior, ↓e_ixor, ↓e_ishl, ↓e_ishr, ↓e_iushr, ↓e_idiv, ↓e_irem, ↓e_ineg, ↓e_ladd, ↓e_lcmp, ↓e_i2l, ↓e_i2c, ↓e_i2d, ↓e_i2f, ↓e_l2f, ↓e_f2d, ↓e_fdiv, ↓e_ddiv, ↓e_dcmp_l, ↓e_fcmp_l, ↓e_dcmp_g, ↓e_fcmp_g, ↓e_push, ↓e_iload, ↓e_fload, ↓e_dload, ↓e_aload, ↓e_istore, ↓e_fstore, ↓e_astore, ↓e_iinc, ↓e_ifeq, ↓e_iceq, ↓e_ifne, ↓e_icne, ↓e_iflt, ↓e_iclt, ↓e_ifge, ↓e_icge, ↓e_ifgt, ↓e_icgt, ↓e_ifle, ↓e_icle, ↓e_goto, ↓e_dup, ↓e_pop, ↓e_dup_x1, ↓e_dup2, ↓e_getf, ↓e_putI, ↓e_putJ, ↓e_putC, ↓e_putR, ↓e_iald, ↓e_zald, ↓e_cald, ↓e_lald, ↓e_dald, ↓e_iast, ↓e_zast, ↓e_cast, ↓e_last, ↓e_dast, ↓e_aald, ↓e_alen, ↓e_throw, ↓e_iret, ↓e_zret, ↓e_cret, ↓e_aret, ↓e_lret, ↓e_fret, ↓e_dret, ↓e_vret, ↓e_new, ↓e_newarr, ↓e_pop1, ↓e_siald, ↓e_salen, ↓e_call, ↓e_callV, ↓e_callI, ↓e_call0, ↓e_callR, PI_e, PFl_e, PD_e, PR_e, PO_e, PHd_e, PA_e, PA_n, IX_e, IX_0, reduceIte, lget, lset, lclr, fget, ctake, cdrop, c1, Nat.reduceAdd, List.reverse_cons, List.reverse_nil, List.nil_append, List.cons_append, Option.toList_some, Option.toList_none, List.length_cons, List.length_nil, true_and, and_true, true_or, or_true, Nat.reduceLeDiff, Nat.reduceLT, Nat.zero_le, List.append_nil]) | refine ⟨_, rfl, by omega, by omega, ?_⟩ | (refine ⟨0, 0, rfl, rfl, ?_⟩) | (refine ⟨1, 6, rfl, rfl, ?_⟩) | (refine ⟨2, 12, rfl, rfl, ?_⟩) | (refine And.intro ?_ ?_; focus (first | exact b2i_01 _ | assumption | decide | (simp; done))))
        · rw [lkI_f n hy (lkW_f 6 hw6 h2), b2i_f] at hq
          repeat (first | (refine hq _ ?_; exact hM) | (refine hx _ ?_; exact hM) | (refine i_Gr_cell_ hM ?_ ?_ fun f hM => ?_; (focus with_reducible assumption); (focus ((repeat' (first | assumption | omega | apply And.intro | rfl)); done))) | (refine run _ _ (i_Gr_isLike g) [(), (), (), (), ()] rfl (is_Gr_isLike g) _ _ _ _ _ ?_; (try simp only [Option.toList_some, Option.toList_none, List.cons_append, List.nil_append, List.append_nil]); simp -dsimp (disch := omega) only [h6, h2, thr_n, wdC_n, wrC_n, tchC_n, wpF_0, c2_n, ↓e_callX, ↓e_callX0, ↓e_acpy, cR_s, cR_n, ↓hobj_c (hM.o5 hk), ↓hAI_c (hM.ai (kd_5_1 hk)), ↓hobj_c (hM.o5 hkq), ↓hAI_c (hM.ai (kd_5_1 hkq)), c2_s, c2_n, eq_self, nI_dec, ixE, nI_4m, nI_16m, nI_10m, nI_2m, nI_add, nI_1, nI_p2, nI_p3, nI_pred, c3_n, c3_s, c3_i, upd_s, upd_n, rowU_n, rowU_ge, true_imp_iff, false_imp_iff, not_true_eq_false, not_false_eq_true, b2i_t, b2i_f, i32_10, i32_00, i32_11, ite_true_I, false_and, and_false, true_and, and_true, or_true, true_or, false_or, or_false, w_Gr_isLike_0, w_Gr_isLike_13, w_Gr_isLike_15, w_Gr_isLike_25, w_Gr_isLike_37, w_Gr_isLike_43, w_Gr_isLike_48, w_Gr_isLike_54, w_Gr_isLike_60, ↓b_Gr_isLike_0, ↓b_Gr_isLike_13, ↓b_Gr_isLike_15, ↓b_Gr_isLike_25, ↓b_Gr_isLike_37, ↓b_Gr_isLike_43, ↓b_Gr_isLike_48, ↓b_Gr_isLike_54, ↓b_Gr_isLike_60, ↓wpL_n, ↓wpL_c, ↓e_iadd, ↓e_isub, ↓e_imul, ↓e_iand, ↓e_ior, ↓e_ixor, ↓e_ishl, ↓e_ishr, ↓e_iushr, ↓e_idiv, ↓e_irem, ↓e_ineg, ↓e_ladd, ↓e_lcmp, ↓e_i2l, ↓e_i2c, ↓e_i2d, ↓e_i2f, ↓e_l2f, ↓e_f2d, ↓e_fdiv, ↓e_ddiv, ↓e_dcmp_l, ↓e_fcmp_l, ↓e_dcmp_g, ↓e_fcmp_g, ↓e_push, ↓e_iload, ↓e_fload, ↓e_dload, ↓e_aload, ↓e_istore, ↓e_fstore, ↓e_astore, ↓e_iinc, ↓e_ifeq, ↓e_iceq, ↓e_ifne, ↓e_icne, ↓e_iflt, ↓e_iclt, ↓e_ifge, ↓e_icge, ↓e_ifgt, ↓e_icgt, ↓e_ifle, ↓e_icle, ↓e_goto, ↓e_dup, ↓e_pop, ↓e_dup_x1, ↓e_dup2, ↓e_getf, ↓e_putI, ↓e_putJ, ↓e_putC, ↓e_putR, ↓e_iald, ↓e_zald, ↓e_cald, ↓e_lald, ↓e_dald, ↓e_iast, ↓e_zast, ↓e_cast, ↓e_last, ↓e_dast, ↓e_aald, ↓e_alen, ↓e_throw, ↓e_iret, ↓e_zret, ↓e_cret, ↓e_aret, ↓e_lret, ↓e_fret, ↓e_dret, ↓e_vret, ↓e_new, ↓e_newarr, ↓e_pop1, ↓e_siald, ↓e_salen, ↓e_call, ↓e_callV, ↓e_callI, ↓e_call0, ↓e_callR, PI_e, PFl_e, PD_e, PR_e, PO_e, PHd_e, PA_e, PA_n, IX_e, IX_0, reduceIte, lget, lset, lclr, fget, ctake, cdrop, c1, Nat.reduceAdd, List.reverse_cons, List.reverse_nil, List.nil_append, List.cons_append, Option.toList_some, Option.toList_none, List.length_cons, List.length_nil, true_and, and_true, true_or, or_true, Nat.reduceLeDiff, Nat.reduceLT, Nat.zero_le, List.append_nil]) | refine ⟨_, rfl, by omega, by omega, ?_⟩ | (refine ⟨0, 0, rfl, rfl, ?_⟩) | (refine ⟨1, 6, rfl, rfl, ?_⟩) | (refine ⟨2, 12, rfl, rfl, ?_⟩) | (refine And.intro ?_ ?_; focus (first | exact b2i_01 _ | assumption | decide | (simp; done))))
    have outer : ∀ m y, y + m = n → lkI sh V o q y = true → ∀ x3 f, CR g O f ad sh V L → B 15 [some (.ref (ad o)), some (.ref (ad q)), some (.int (nI y)), x3] [] f 0 0 := by
      intro m
      induction m with
      | zero =>
        intro y e9 hI x3 f hM
        rw [Nat.add_zero] at e9
        subst e9
        rw [hI, b2i_t] at hq
        repeat (first | (refine hq _ ?_; exact hM) | (refine hx _ ?_; exact hM) | (refine i_Gr_cell_ hM ?_ ?_ fun f hM => ?_; (focus with_reducible assumption); (focus ((repeat' (first | assumption | omega | apply And.intro | rfl)); done))) | (refine run _ _ (i_Gr_isLike g) [(), (), (), (), ()] rfl (is_Gr_isLike g) _ _ _ _ _ ?_; (try simp only [Option.toList_some, Option.toList_none, List.cons_append, List.nil_append, List.append_nil]); simp -dsimp (disch := omega) only [e, Int32.le_refl, thr_n, wdC_n, wrC_n, tchC_n, wpF_0, c2_n, ↓e_callX, ↓e_callX0, ↓e_acpy, cR_s, cR_n, ↓hobj_c (hM.o5 hk), ↓hAI_c (hM.ai (kd_5_1 hk)), c2_s, c2_n, eq_self, nI_dec, ixE, nI_4m, nI_16m, nI_10m, nI_2m, nI_add, nI_1, nI_p2, nI_p3, nI_pred, c3_n, c3_s, c3_i, upd_s, upd_n, rowU_n, rowU_ge, true_imp_iff, false_imp_iff, not_true_eq_false, not_false_eq_true, b2i_t, b2i_f, i32_10, i32_00, i32_11, ite_true_I, false_and, and_false, true_and, and_true, or_true, true_or, false_or, or_false, w_Gr_isLike_0, w_Gr_isLike_13, w_Gr_isLike_15, w_Gr_isLike_25, w_Gr_isLike_37, w_Gr_isLike_43, w_Gr_isLike_48, w_Gr_isLike_54, w_Gr_isLike_60, ↓b_Gr_isLike_0, ↓b_Gr_isLike_13, ↓b_Gr_isLike_15, ↓b_Gr_isLike_25, ↓b_Gr_isLike_37, ↓b_Gr_isLike_43, ↓b_Gr_isLike_48, ↓b_Gr_isLike_54, ↓b_Gr_isLike_60, ↓wpL_n, ↓wpL_c, ↓e_iadd, ↓e_isub, ↓e_imul, ↓e_iand, ↓e_ior, ↓e_ixor, ↓e_ishl, ↓e_ishr, ↓e_iushr, ↓e_idiv, ↓e_irem, ↓e_ineg, ↓e_ladd, ↓e_lcmp, ↓e_i2l, ↓e_i2c, ↓e_i2d, ↓e_i2f, ↓e_l2f, ↓e_f2d, ↓e_fdiv, ↓e_ddiv, ↓e_dcmp_l, ↓e_fcmp_l, ↓e_dcmp_g, ↓e_fcmp_g, ↓e_push, ↓e_iload, ↓e_fload, ↓e_dload, ↓e_aload, ↓e_istore, ↓e_fstore, ↓e_astore, ↓e_iinc, ↓e_ifeq, ↓e_iceq, ↓e_ifne, ↓e_icne, ↓e_iflt, ↓e_iclt, ↓e_ifge, ↓e_icge, ↓e_ifgt, ↓e_icgt, ↓e_ifle, ↓e_icle, ↓e_goto, ↓e_dup, ↓e_pop, ↓e_dup_x1, ↓e_dup2, ↓e_getf, ↓e_putI, ↓e_putJ, ↓e_putC, ↓e_putR, ↓e_iald, ↓e_zald, ↓e_cald, ↓e_lald, ↓e_dald, ↓e_iast, ↓e_zast, ↓e_cast, ↓e_last, ↓e_dast, ↓e_aald, ↓e_alen, ↓e_throw, ↓e_iret, ↓e_zret, ↓e_cret, ↓e_aret, ↓e_lret, ↓e_fret, ↓e_dret, ↓e_vret, ↓e_new, ↓e_newarr, ↓e_pop1, ↓e_siald, ↓e_salen, ↓e_call, ↓e_callV, ↓e_callI, ↓e_call0, ↓e_callR, PI_e, PFl_e, PD_e, PR_e, PO_e, PHd_e, PA_e, PA_n, IX_e, IX_0, reduceIte, lget, lset, lclr, fget, ctake, cdrop, c1, Nat.reduceAdd, List.reverse_cons, List.reverse_nil, List.nil_append, List.cons_append, Option.toList_some, Option.toList_none, List.length_cons, List.length_nil, true_and, and_true, true_or, or_true, Nat.reduceLeDiff, Nat.reduceLT, Nat.zero_le, List.append_nil]) | refine ⟨_, rfl, by omega, by omega, ?_⟩ | (refine ⟨0, 0, rfl, rfl, ?_⟩) | (refine ⟨1, 6, rfl, rfl, ?_⟩) | (refine ⟨2, 12, rfl, rfl, ?_⟩) | (refine And.intro ?_ ?_; focus (first | exact b2i_01 _ | assumption | decide | (simp; done))))
      | succ m ih =>
        intro y e9 hI x3 f hM
        clear hq
        have hy : ¬ nI n ≤ nI y := nI_ge (by omega) (by omega)
        have inn := inner y (by omega) hI _ (fun f hM hI2 => ih (y + 1) (by omega) hI2 _ f hM) rfl 6 0 rfl rfl
        repeat (first | (refine hq _ ?_; exact hM) | (refine hx _ ?_; exact hM) | exact inn _ hM | (refine i_Gr_cell_ hM ?_ ?_ fun f hM => ?_; (focus with_reducible assumption); (focus ((repeat' (first | assumption | omega | apply And.intro | rfl)); done))) | (refine run _ _ (i_Gr_isLike g) [(), (), (), (), ()] rfl (is_Gr_isLike g) _ _ _ _ _ ?_; (try simp only [Option.toList_some, Option.toList_none, List.cons_append, List.nil_append, List.append_nil]); simp -dsimp (disch := omega) only [e, hy, thr_n, wdC_n, wrC_n, tchC_n, wpF_0, c2_n, ↓e_callX, ↓e_callX0, ↓e_acpy, cR_s, cR_n, ↓hobj_c (hM.o5 hk), ↓hAI_c (hM.ai (kd_5_1 hk)), c2_s, c2_n, eq_self, nI_dec, ixE, nI_4m, nI_16m, nI_10m, nI_2m, nI_add, nI_1, nI_p2, nI_p3, nI_pred, c3_n, c3_s, c3_i, upd_s, upd_n, rowU_n, rowU_ge, true_imp_iff, false_imp_iff, not_true_eq_false, not_false_eq_true, b2i_t, b2i_f, i32_10, i32_00, i32_11, ite_true_I, false_and, and_false, true_and, and_true, or_true, true_or, false_or, or_false, w_Gr_isLike_0, w_Gr_isLike_13, w_Gr_isLike_15, w_Gr_isLike_25, w_Gr_isLike_37, w_Gr_isLike_43, w_Gr_isLike_48, w_Gr_isLike_54, w_Gr_isLike_60, ↓b_Gr_isLike_0, ↓b_Gr_isLike_13, ↓b_Gr_isLike_15, ↓b_Gr_isLike_25, ↓b_Gr_isLike_37, ↓b_Gr_isLike_43, ↓b_Gr_isLike_48, ↓b_Gr_isLike_54, ↓b_Gr_isLike_60, ↓wpL_n, ↓wpL_c, ↓e_iadd, ↓e_isub, ↓e_imul, ↓e_iand, ↓e_ior, ↓e_ixor, ↓e_ishl, ↓e_ishr, ↓e_iushr, ↓e_idiv, ↓e_irem, ↓e_ineg, ↓e_ladd, ↓e_lcmp, ↓e_i2l, ↓e_i2c, ↓e_i2d, ↓e_i2f, ↓e_l2f, ↓e_f2d, ↓e_fdiv, ↓e_ddiv, ↓e_dcmp_l, ↓e_fcmp_l, ↓e_dcmp_g, ↓e_fcmp_g, ↓e_push, ↓e_iload, ↓e_fload, ↓e_dload, ↓e_aload, ↓e_istore, ↓e_fstore, ↓e_astore, ↓e_iinc, ↓e_ifeq, ↓e_iceq, ↓e_ifne, ↓e_icne, ↓e_iflt, ↓e_iclt, ↓e_ifge, ↓e_icge, ↓e_ifgt, ↓e_icgt, ↓e_ifle, ↓e_icle, ↓e_goto, ↓e_dup, ↓e_pop, ↓e_dup_x1, ↓e_dup2, ↓e_getf, ↓e_putI, ↓e_putJ, ↓e_putC, ↓e_putR, ↓e_iald, ↓e_zald, ↓e_cald, ↓e_lald, ↓e_dald, ↓e_iast, ↓e_zast, ↓e_cast, ↓e_last, ↓e_dast, ↓e_aald, ↓e_alen, ↓e_throw, ↓e_iret, ↓e_zret, ↓e_cret, ↓e_aret, ↓e_lret, ↓e_fret, ↓e_dret, ↓e_vret, ↓e_new, ↓e_newarr, ↓e_pop1, ↓e_siald, ↓e_salen, ↓e_call, ↓e_callV, ↓e_callI, ↓e_call0, ↓e_callR, PI_e, PFl_e, PD_e, PR_e, PO_e, PHd_e, PA_e, PA_n, IX_e, IX_0, reduceIte, lget, lset, lclr, fget, ctake, cdrop, c1, Nat.reduceAdd, List.reverse_cons, List.reverse_nil, List.nil_append, List.cons_append, Option.toList_some, Option.toList_none, List.length_cons, List.length_nil, true_and, and_true, true_or, or_true, Nat.reduceLeDiff, Nat.reduceLT, Nat.zero_le, List.append_nil]) | refine ⟨_, rfl, by omega, by omega, ?_⟩ | (refine ⟨0, 0, rfl, rfl, ?_⟩) | (refine ⟨1, 6, rfl, rfl, ?_⟩) | (refine ⟨2, 12, rfl, rfl, ?_⟩) | (refine And.intro ?_ ?_; focus (first | exact b2i_01 _ | assumption | decide | (simp; done))))
    repeat (first | (refine hq _ ?_; exact hM) | (refine hx _ ?_; exact hM) | exact outer n 0 (by omega) rfl _ _ hM | (refine i_Gr_cell_ hM ?_ ?_ fun f hM => ?_; (focus with_reducible assumption); (focus ((repeat' (first | assumption | omega | apply And.intro | rfl)); done))) | (refine run _ _ (i_Gr_isLike g) [(), (), (), (), ()] rfl (is_Gr_isLike g) _ _ _ _ _ ?_; (try simp only [Option.toList_some, Option.toList_none, List.cons_append, List.nil_append, List.append_nil]); simp -dsimp (disch := omega) only [e, eq1, thr_n, wdC_n, wrC_n, tchC_n, wpF_0, c2_n, ↓e_callX, ↓e_callX0, ↓e_acpy, cR_s, cR_n, ↓hobj_c (hM.o5 hk), ↓hAI_c (hM.ai (kd_5_1 hk)), ↓hobj_c (hM.o5 hkq), ↓hAI_c (hM.ai (kd_5_1 hkq)), c2_s, c2_n, eq_self, nI_dec, ixE, nI_4m, nI_16m, nI_10m, nI_2m, nI_add, nI_1, nI_p2, nI_p3, nI_pred, c3_n, c3_s, c3_i, upd_s, upd_n, rowU_n, rowU_ge, true_imp_iff, false_imp_iff, not_true_eq_false, not_false_eq_true, b2i_t, b2i_f, i32_10, i32_00, i32_11, ite_true_I, false_and, and_false, true_and, and_true, or_true, true_or, false_or, or_false, w_Gr_isLike_0, w_Gr_isLike_13, w_Gr_isLike_15, w_Gr_isLike_25, w_Gr_isLike_37, w_Gr_isLike_43, w_Gr_isLike_48, w_Gr_isLike_54, w_Gr_isLike_60, ↓b_Gr_isLike_0, ↓b_Gr_isLike_13, ↓b_Gr_isLike_15, ↓b_Gr_isLike_25, ↓b_Gr_isLike_37, ↓b_Gr_isLike_43, ↓b_Gr_isLike_48, ↓b_Gr_isLike_54, ↓b_Gr_isLike_60, ↓wpL_n, ↓wpL_c, ↓e_iadd, ↓e_isub, ↓e_imul, ↓e_iand, ↓e_ior, ↓e_ixor, ↓e_ishl, ↓e_ishr, ↓e_iushr, ↓e_idiv, ↓e_irem, ↓e_ineg, ↓e_ladd, ↓e_lcmp, ↓e_i2l, ↓e_i2c, ↓e_i2d, ↓e_i2f, ↓e_l2f, ↓e_f2d, ↓e_fdiv, ↓e_ddiv, ↓e_dcmp_l, ↓e_fcmp_l, ↓e_dcmp_g, ↓e_fcmp_g, ↓e_push, ↓e_iload, ↓e_fload, ↓e_dload, ↓e_aload, ↓e_istore, ↓e_fstore, ↓e_astore, ↓e_iinc, ↓e_ifeq, ↓e_iceq, ↓e_ifne, ↓e_icne, ↓e_iflt, ↓e_iclt, ↓e_ifge, ↓e_icge, ↓e_ifgt, ↓e_icgt, ↓e_ifle, ↓e_icle, ↓e_goto, ↓e_dup, ↓e_pop, ↓e_dup_x1, ↓e_dup2, ↓e_getf, ↓e_putI, ↓e_putJ, ↓e_putC, ↓e_putR, ↓e_iald, ↓e_zald, ↓e_cald, ↓e_lald, ↓e_dald, ↓e_iast, ↓e_zast, ↓e_cast, ↓e_last, ↓e_dast, ↓e_aald, ↓e_alen, ↓e_throw, ↓e_iret, ↓e_zret, ↓e_cret, ↓e_aret, ↓e_lret, ↓e_fret, ↓e_dret, ↓e_vret, ↓e_new, ↓e_newarr, ↓e_pop1, ↓e_siald, ↓e_salen, ↓e_call, ↓e_callV, ↓e_callI, ↓e_call0, ↓e_callR, PI_e, PFl_e, PD_e, PR_e, PO_e, PHd_e, PA_e, PA_n, IX_e, IX_0, reduceIte, lget, lset, lclr, fget, ctake, cdrop, c1, Nat.reduceAdd, List.reverse_cons, List.reverse_nil, List.nil_append, List.cons_append, Option.toList_some, Option.toList_none, List.length_cons, List.length_nil, true_and, and_true, true_or, or_true, Nat.reduceLeDiff, Nat.reduceLT, Nat.zero_le, List.append_nil]) | refine ⟨_, rfl, by omega, by omega, ?_⟩ | (refine ⟨0, 0, rfl, rfl, ?_⟩) | (refine ⟨1, 6, rfl, rfl, ?_⟩) | (refine ⟨2, 12, rfl, rfl, ?_⟩) | (refine And.intro ?_ ?_; focus (first | exact b2i_01 _ | assumption | decide | (simp; done))))
  · rw [gLk, decide_eq_false h1, Bool.false_and, b2i_f] at hq
    repeat (first | (refine hq _ ?_; exact hM) | (refine hx _ ?_; exact hM) | (refine i_Gr_cell_ hM ?_ ?_ fun f hM => ?_; (focus with_reducible assumption); (focus ((repeat' (first | assumption | omega | apply And.intro | rfl)); done))) | (refine run _ _ (i_Gr_isLike g) [(), (), (), (), ()] rfl (is_Gr_isLike g) _ _ _ _ _ ?_; (try simp only [Option.toList_some, Option.toList_none, List.cons_append, List.nil_append, List.append_nil]); simp -dsimp (disch := omega) only [h1, thr_n, wdC_n, wrC_n, tchC_n, wpF_0, c2_n, ↓e_callX, ↓e_callX0, ↓e_acpy, cR_s, cR_n, ↓hobj_c (hM.o5 hk), ↓hAI_c (hM.ai (kd_5_1 hk)), ↓hobj_c (hM.o5 hkq), ↓hAI_c (hM.ai (kd_5_1 hkq)), c2_s, c2_n, eq_self, nI_dec, ixE, nI_4m, nI_16m, nI_10m, nI_2m, nI_add, nI_1, nI_p2, nI_p3, nI_pred, c3_n, c3_s, c3_i, upd_s, upd_n, rowU_n, rowU_ge, true_imp_iff, false_imp_iff, not_true_eq_false, not_false_eq_true, b2i_t, b2i_f, i32_10, i32_00, i32_11, ite_true_I, false_and, and_false, true_and, and_true, or_true, true_or, false_or, or_false, w_Gr_isLike_0, w_Gr_isLike_13, w_Gr_isLike_15, w_Gr_isLike_25, w_Gr_isLike_37, w_Gr_isLike_43, w_Gr_isLike_48, w_Gr_isLike_54, w_Gr_isLike_60, ↓b_Gr_isLike_0, ↓b_Gr_isLike_13, ↓b_Gr_isLike_15, ↓b_Gr_isLike_25, ↓b_Gr_isLike_37, ↓b_Gr_isLike_43, ↓b_Gr_isLike_48, ↓b_Gr_isLike_54, ↓b_Gr_isLike_60, ↓wpL_n, ↓wpL_c, ↓e_iadd, ↓e_isub, ↓e_imul, ↓e_iand, ↓e_ior, ↓e_ixor, ↓e_ishl, ↓e_ishr, ↓e_iushr, ↓e_idiv, ↓e_irem, ↓e_ineg, ↓e_ladd, ↓e_lcmp, ↓e_i2l, ↓e_i2c, ↓e_i2d, ↓e_i2f, ↓e_l2f, ↓e_f2d, ↓e_fdiv, ↓e_ddiv, ↓e_dcmp_l, ↓e_fcmp_l, ↓e_dcmp_g, ↓e_fcmp_g, ↓e_push, ↓e_iload, ↓e_fload, ↓e_dload, ↓e_aload, ↓e_istore, ↓e_fstore, ↓e_astore, ↓e_iinc, ↓e_ifeq, ↓e_iceq, ↓e_ifne, ↓e_icne, ↓e_iflt, ↓e_iclt, ↓e_ifge, ↓e_icge, ↓e_ifgt, ↓e_icgt, ↓e_ifle, ↓e_icle, ↓e_goto, ↓e_dup, ↓e_pop, ↓e_dup_x1, ↓e_dup2, ↓e_getf, ↓e_putI, ↓e_putJ, ↓e_putC, ↓e_putR, ↓e_iald, ↓e_zald, ↓e_cald, ↓e_lald, ↓e_dald, ↓e_iast, ↓e_zast, ↓e_cast, ↓e_last, ↓e_dast, ↓e_aald, ↓e_alen, ↓e_throw, ↓e_iret, ↓e_zret, ↓e_cret, ↓e_aret, ↓e_lret, ↓e_fret, ↓e_dret, ↓e_vret, ↓e_new, ↓e_newarr, ↓e_pop1, ↓e_siald, ↓e_salen, ↓e_call, ↓e_callV, ↓e_callI, ↓e_call0, ↓e_callR, PI_e, PFl_e, PD_e, PR_e, PO_e, PHd_e, PA_e, PA_n, IX_e, IX_0, reduceIte, lget, lset, lclr, fget, ctake, cdrop, c1, Nat.reduceAdd, List.reverse_cons, List.reverse_nil, List.nil_append, List.cons_append, Option.toList_some, Option.toList_none, List.length_cons, List.length_nil, true_and, and_true, true_or, or_true, Nat.reduceLeDiff, Nat.reduceLT, Nat.zero_le, List.append_nil]) | refine ⟨_, rfl, by omega, by omega, ?_⟩ | (refine ⟨0, 0, rfl, rfl, ?_⟩) | (refine ⟨1, 6, rfl, rfl, ?_⟩) | (refine ⟨2, 12, rfl, rfl, ?_⟩) | (refine And.intro ?_ ?_; focus (first | exact b2i_01 _ | assumption | decide | (simp; done))))


