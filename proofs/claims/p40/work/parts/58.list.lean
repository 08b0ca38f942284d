-- deps: 51.rows 31.str
/-! ===== the class: its lists ===== -/
def o_callF (T : Spec2) (ci n mc ms : Nat) : Op := fun lv st f bc bs K B Q X => (∃ b fs, (ctake st n).reverse.head? = some (.ref b) ∧ f b = some (.inr (ci, fs))) ∧ o_callX T n mc ms lv st f bc bs K B Q X
theorem ok_callF {M : MI} {pc i n k mc ms ci cnt : Nat} {x y : MethodName} {T : Spec2} {o2 : String} {cc2 : ByteArray} {nL2 : Nat} {ret2 : Option FieldType} {hh2 : List (Nat × Nat × Nat × Nat)} {ii2 : Bool} {lv2 : Nat} {r : vw_C} {ty : Nat → FieldType} (hc : ClsOk ci r ty) (hS2 : Snd y (o2, cc2, nL2, ret2, hh2, ii2, lv2, M.2.2.2.2.2.2.2) mc ms T) (hlv : lv2 < M.2.2.2.2.2.2.1) (hnl : nL2 ≤ 41) (hh : M.2.2.2.2.1 = []) (hk : n = k + 1)
    (h1 : Cond.methodLink M.1 i x ∈ lw_tbl) (h2 : Cond.declares x ∈ lw_tbl) (h3 : Cond.interfaceMethod x.cls x.cls x.name x.desc ∈ lw_tbl) (h4 : Cond.selects r.1 x y ∈ lw_tbl) (h5 : Cond.instanceMethod y ∈ lw_tbl) (h6 : Cond.publicMethod y ∈ lw_tbl) (h7 : Cond.unhidden r.1 x.name x.desc ∈ lw_tbl) (h8 : Cond.castable r.1 x.cls ∈ lw_tbl) (h9 : Cond.initialized y.cls ∈ lw_tbl) (ha : Cond.code y cc2 nL2 ret2 ∈ lw_tbl)
    (hkw : kw (Cond.declares x) = true ∧ kw (Cond.interfaceMethod x.cls x.cls x.name x.desc) = true ∧ kw (Cond.publicMethod y) = true ∧ kw (Cond.unhidden r.1 x.name x.desc) = true ∧ kw (Cond.castable r.1 x.cls) = true)
    (hd : x.cls ≠ "java/lang/invoke/MethodHandle" ∧ x.cls ≠ "java/lang/invoke/VarHandle" ∧ (parseMethodDescriptor x.desc).map (fun d => d.parameters.length) = some k) (d : decode M.2.1 pc = .ok (.invokeinterface i cnt, 5)) : OpOk M pc 5 (o_callF T ci n mc ms) := by
  intro C Q X hC K hK B' hB lv st f bc bs h
  obtain ⟨⟨g, MC, MS⟩, ⟨p, l, e, R⟩, ⟨s, m, args, below, meth, c⟩, Qf⟩ := C
  obtain ⟨hx, hb, hml, hown, hw, hlk, hE, hst, hR, hex, hin, hrt, hQ, hgl⟩ := hC
  intro ls H locs cells slots hl hrep hS hc1 hc2
  obtain ⟨⟨b, fs, hhd, hbf⟩, h⟩ := h
  obtain ⟨hn, hrl, bc', bs', rfl, rfl, hT⟩ := h
  subst hR hQ
  obtain ⟨hg, hl9⟩ := hgl
  subst hg hl9
  have hPc : ∀ U : State, U.heap = H → s.WarmedH U.vm → PcOf M.2.2.2.2.2.2.2.1 (ctake st n).reverse f (ctake st n).reverse.toArray U := fun U hU hW => ⟨rfl, by rw [hU]; exact hrep, by rw [hU]; exact hE.go hW hS.1 hS.2.1, hw.warm hW⟩
  have hex0 : c.exceptionTable.toList = [] := by rw [hex, hh]; rfl
  have hstk := ctd st n
  have hcl := ctl st n hn
  have hv8 : ((cdrop st n).map fun v => v.category).sum ≤ 8 := by
    have : ∀ l : List Value, (l.map fun v => v.category).sum ≤ 2 * l.length := by
      intro l
      induction l with
      | nil => simp
      | cons v r ih =>
        have hv : v.category ≤ 2 := by rcases lv_cat v with h | h <;> omega
        simp only [List.map_cons, List.sum_cons, List.length_cons]
        omega
    have := this (cdrop st n)
    omega
  have hroom := room_le (MC := MC) (MS := MS) (mc := mc) (ms := ms) hlv hnl
  have hS3 := hS2 _ f _ (fun _ _ => False) hT
  obtain ⟨As, eA, eB⟩ := head_split hhd
  have hlA : As.length = k := by have h9 := congrArg List.length eA; rw [List.length_reverse, hcl] at h9; simp at h9; omega
  have hrecv := va_recv (ci := ci) (q := r) (q0 := 0) hE.1 (hrep.one hbf) hc.1 rfl
  rw [eA] at hPc hS3
  have keep : ∀ {st₀ t T' : State} {L : List Loc}, st₀.heap = H → T'.heap = t.heap → (∀ z ∈ L, Ag M.2.2.2.2.2.2.2.1 z.base) → va_F (Ag M.2.2.2.2.2.2.2.1) st₀ t → va_S (Ag M.2.2.2.2.2.2.2.1) s.heap T'.heap (locs ++ L) := fun h0 e1 hL hF => (vx_keep h0 e1 hS (fun _ _ z => z) (fun _ z => z) hL hF).2.2
  intro T9 hT9 X9
  obtain ⟨v, st₀, t, T', L, h0, X', hL, e1, e2, ⟨r', f', hv, hq, hrep', hF⟩, st⟩ := va_runF (Ts := []) (own := M.1) (C := r.1) (nL := M.2.2.1) (rest := cdrop st n) (As := As) (b := b) (n := k) (hE.1.1 ci r hc.1).2 ⟨hx, hb, hml, hown, fun w h9 => by cases h9⟩ (met_of_vx hS3 (fun E a b q => by obtain ⟨f9, q9, -⟩ := q; exact q9)) ⟨⟨rfl, rfl, hroom.1, hroom.2, ws_one (hw _ ha rfl) rfl, List.mem_cons_self⟩, hw _ h1 rfl, hw _ h2 hkw.1, hw _ h3 hkw.2.1, hw _ h4 rfl, hw _ h5 rfl, hw _ h6 hkw.2.2.1, hw _ h7 hkw.2.2.2.1, hw _ h8 hkw.2.2.2.2, hw _ h9 rfl, hw _ ha rfl, ⟨hd.1, hd.2.1⟩, fun sig q => by have h9 := hd.2.2; rw [q] at h9; exact (Option.some.inj h9).symm⟩ ⟨PcOf.blind _ _ _, hrecv, hPc⟩ rfl hlA hl.1 (by show st = _; rw [eB, List.append_assoc] at hstk; exact hstk) (lv_room hv8) d ⟨by show _ ≤ MC; omega, by show _ ≤ MS; omega⟩ T9 hT9 X9
  cases hv
  obtain ⟨t2, a1, b1⟩ := hK _ _ _ _ _ hq ls T'.heap (locs ++ L) _ _ hl (by rw [e1]; exact hrep') (keep h0 e1 hL hF) (by omega) (by omega) T' rfl X'
  exact ⟨t2, st t2 a1, b1⟩
def o_callF0 (T : Spec2) (ci n : Nat) : Op := fun lv st f bc bs K B Q X => match (ctake st n).reverse with | .ref a :: _ => hobj f a ci (fun _ => True) ∧ o_callX0 T n lv st f bc bs K B Q X | _ => False
theorem callF0_of {T : Spec2} {ci n : Nat} : ∀ lv st f bc bs K B Q X, o_callF0 T ci n lv st f bc bs K B Q X → o_callF T ci n 0 0 lv st f bc bs K B Q X := fun lv st f bc bs K B Q X h => by
  simp only [o_callF0] at h
  split at h
  · next a r e =>
    obtain ⟨fs, hf, -⟩ := hobj_ex h.1
    exact ⟨⟨a, fs, by rw [e]; rfl, hf⟩, callX0_of lv st f bc bs K B Q X h.2⟩
  · exact h.elim
theorem e_callF0 (T : Spec2) (ci n : Nat) (lv : LV) (st : List Value) (f : AH) (bc bs : Nat) (K : Kx) (B : Bx) (Q : Option Value → AH → Prop) (X : String → AH → Prop) : o_callF0 T ci n lv (st) f bc bs K B Q X = (PHd (ctake st n).reverse (fun a => hobj f a ci (fun _ => True) ∧ o_callX0 T n lv st f bc bs K B Q X) (0 : Nat)) := (rfl)
theorem ok_null {M : MI} {pc : Nat} (d : decode M.2.1 pc = .ok (.aconst_null, 1)) : OpOk M pc 1 (o_push .null) := by
  intro C Q X hC K hK B' hB lv st f bc bs h
  obtain ⟨⟨g, MC, MS⟩, ⟨p, l, e, R⟩, ⟨s, m, args, below, meth, c⟩, Qf⟩ := C
  obtain ⟨hx, hb, hml, hown, hw, hlk, hE, hst, hR, hex, hin, hrt, hQ, hgl⟩ := hC
  intro ls H locs cells slots hl hrep hS hc1 hc2
  rw [o_push] at h
  exact lv_null hx hb d (hK _ _ _ _ _ h ls H locs cells slots hl hrep hS hc1 hc2)
/-- a cast that is known to hold -/
def o_cstc (ci : Nat) : Op := fun lv st f bc bs K _ _ _ => match st with | .ref a :: r => hobj f a ci (fun _ => K lv (.ref a :: r) f bc bs) | _ => False
theorem e_cstc (ci : Nat) (lv : LV) (a : Nat) (r : List Value) (f : AH) (bc bs : Nat) (K : Kx) (B : Bx) (Q : Option Value → AH → Prop) (X : String → AH → Prop) : o_cstc ci lv (.ref a :: r) f bc bs K B Q X = (hobj f a ci (fun _ => K lv (.ref a :: r) f bc bs)) := (rfl)
theorem ok_cstc {M : MI} {pc i ci : Nat} {r : vw_C} {ty : Nat → FieldType} (hc : ClsOk ci r ty) (h1 : Cond.classLink M.1 i r.1 ∈ lw_tbl) (d : decode M.2.1 pc = .ok (.checkcast i, 3)) : OpOk M pc 3 (o_cstc ci) := by
  intro C Q X hC K hK B' hB lv st f bc bs h
  obtain ⟨⟨g, MC, MS⟩, ⟨p, l, e, R⟩, ⟨s, m, args, below, meth, c⟩, Qf⟩ := C
  obtain ⟨hx, hb, hml, hown, hw, hlk, hE, hst, hR, hex, hin, hrt, hQ, hgl⟩ := hC
  intro ls H locs cells slots hl hrep hS hc1 hc2
  simp only [o_cstc] at h
  split at h
  · obtain ⟨fs, hf, h⟩ := hobj_ex h
    have hrecv := va_recv (ci := ci) (q := r) (q0 := 0) hE.1 (hrep.one hf) hc.1 rfl
    exact va_castE hx hb hown (hw _ h1 rfl) hrecv d (hK _ _ _ _ _ h ls H locs cells slots hl hrep hS hc1 hc2)
  · exact h.elim

def T_Ob_checkIndex : Spec2 := fun as f Q _ => ∃ (i : Nat) (n : Nat), as = [.int (nI i), .int (nI n)] ∧ (i < n ∧ n < 2147483648) ∧ Q (some (.int (nI i))) f
theorem i_Ob_checkIndex_ {i : Nat} {n : Nat} {f : AH} {Q : Option Value → AH → Prop} {X : String → AH → Prop} (hp : i < n ∧ n < 2147483648) (h : Q (some (.int (nI i))) f) : T_Ob_checkIndex [.int (nI i), .int (nI n)] f Q X := ⟨i, n, rfl, hp, h⟩
abbrev m_Ob_checkIndex (g : GG) (l : Launch) : MI := (RJ15, cJ15_checkIndex_7cf53, 2, (some .int), [], false, 2, g, l)
def b_Ob_checkIndex_0 (g : GG) : Blk := [(1, o_iload 0), (1, o_iload 1), (1, o_push .null), (3, o_call0 T_Pr_checkIndex 3)]
def b_Ob_checkIndex_6 (g : GG) : Blk := [(1, o_iret)]
set_option maxRecDepth 8000 in
theorem okb_Ob_checkIndex_0 (g : GG) (l : Launch) (hst : l.stackTraces = false) : BlkOk (m_Ob_checkIndex g l) 0 (b_Ob_checkIndex_0 g) := 
  ⟨ok_iload_n (by decide +kernel : decode cJ15_checkIndex_7cf53 0 = .ok (.iload_n 0, 1)) rfl,
  ⟨ok_iload_n (by decide +kernel : decode cJ15_checkIndex_7cf53 1 = .ok (.iload_n 1, 1)) rfl,
  ⟨ok_null (by decide +kernel : decode cJ15_checkIndex_7cf53 2 = .ok (.aconst_null, 1)),
  ⟨(ok_callS (k := 3) (s_Pr_checkIndex g l hst) (show 1 < 2 from by decide) (Nat.le_of_ble_eq_true rfl) rfl rfl tw_212 tw_213 tw_15 tw_214 ⟨by decide, by decide, by decide⟩ (by decide +kernel : decode cJ15_checkIndex_7cf53 3 = .ok (.invokestatic 105, 3))).mono call0_of, trivial⟩⟩⟩⟩
set_option maxRecDepth 8000 in
theorem okb_Ob_checkIndex_6 (g : GG) (l : Launch) (hst : l.stackTraces = false) : BlkOk (m_Ob_checkIndex g l) 6 (b_Ob_checkIndex_6 g) := 
  ⟨ok_iret rfl (by decide +kernel : decode cJ15_checkIndex_7cf53 6 = .ok (.ireturn, 1)), trivial⟩
def k_Ob_checkIndex (g : GG) : List (Nat × Blk) := [(0, b_Ob_checkIndex_0 g), (6, b_Ob_checkIndex_6 g)]
theorem ok_Ob_checkIndex (g : GG) (l : Launch) (hst : l.stackTraces = false) : ∀ b ∈ k_Ob_checkIndex g, BlkOk (m_Ob_checkIndex g l) b.1 b.2 := List.forall_mem_cons.mpr ⟨okb_Ob_checkIndex_0 g l hst, List.forall_mem_cons.mpr ⟨okb_Ob_checkIndex_6 g l hst, fun _ h => by cases h⟩⟩
def i_Ob_checkIndex (g : GG) : List (Nat × Blk) := []
theorem is_Ob_checkIndex (g : GG) : ∀ x ∈ i_Ob_checkIndex g, x ∈ k_Ob_checkIndex g := sub_at [] rfl
theorem w_Ob_checkIndex_0 (g : GG) (u : Unit) (n : List Unit) (B : Bx) (Q : Option Value → AH → Prop) (X : String → AH → Prop) (lv : LV) (st : List Value) (f : AH) (bc bs : Nat) : wpF (i_Ob_checkIndex g) (u :: n) B Q X 0 lv st f bc bs = B 0 lv st f bc bs := (rfl)
theorem w_Ob_checkIndex_6 (g : GG) (u : Unit) (n : List Unit) (B : Bx) (Q : Option Value → AH → Prop) (X : String → AH → Prop) (lv : LV) (st : List Value) (f : AH) (bc bs : Nat) : wpF (i_Ob_checkIndex g) (u :: n) B Q X 6 lv st f bc bs = B 6 lv st f bc bs := (rfl)
set_option maxRecDepth 4000 in
set_option maxHeartbeats 4000000 in
theorem s_Ob_checkIndex (g : GG) (l : Launch) (hst : l.stackTraces = false) : Snd yJ15_checkIndex_7cf53 (m_Ob_checkIndex g l) 0 0 T_Ob_checkIndex := by
  refine snd_of (plainFor_of_name (by decide)) rfl (fun h => by first | rfl | cases h) rfl hst (k_Ob_checkIndex g) (ok_Ob_checkIndex g l hst) ?_
  rintro as f Q X ⟨i, n, rfl, hp, hq⟩
  refine ⟨[some (.int (nI i)), some (.int (nI n))], rfl, Nat.le_of_ble_eq_true rfl, fun B run => ?_⟩
  repeat (first | exact hq | (refine i_Pr_checkIndex_ ⟨Or.inl rfl, hp⟩ ?_) | (refine i_Pr_checkIndex_ ?_ ?_; (focus ((repeat' (first | assumption | omega | apply And.intro | rfl)); done))) | (refine run _ _ (i_Ob_checkIndex g) [()] rfl (is_Ob_checkIndex g) _ _ _ _ _ ?_; (try simp only [Option.toList_some, Option.toList_none, List.cons_append, List.nil_append, List.append_nil]); simp -dsimp (disch := omega) only [thr_n, wdC_n, wrC_n, tchC_n, wpF_0, ↓e_no, ↓e_any, c2_n, ↓e_callX, ↓e_callX0, ↓e_callF0, ↓e_cstc, eq_self, nI_dec, ixE, nI_4m, nI_16m, nI_10m, nI_2m, nI_add, nI_1, nI_p2, nI_p3, nI_pred, c3_n, c3_s, c3_i, upd_s, upd_n, rowU_n, rowU_ge, true_imp_iff, false_imp_iff, not_true_eq_false, not_false_eq_true, b2i_t, b2i_f, i32_10, i32_00, i32_11, ite_true_I, false_and, and_false, true_and, and_true, or_true, true_or, false_or, or_false, w_Ob_checkIndex_0, w_Ob_checkIndex_6, ↓b_Ob_checkIndex_0, ↓b_Ob_checkIndex_6, ↓wpL_n, ↓wpL_c, ↓e_iadd, ↓e_isub, ↓e_imul, ↓e_iand, ↓e_ior, ↓e_ixor, ↓e_ishl, ↓e_ishr, ↓e_iushr, ↓e_idiv, ↓e_irem, ↓e_ineg, ↓e_ladd, ↓e_lcmp, ↓e_i2l, ↓e_i2c, ↓e_i2d, ↓e_i2f, ↓e_l2f, ↓e_f2d, ↓e_fdiv, ↓e_ddiv, ↓e_dcmp_l, ↓e_fcmp_l, ↓e_dcmp_g, ↓e_fcmp_g, ↓e_push, ↓e_iload, ↓e_fload, ↓e_dload, ↓e_aload, ↓e_istore, ↓e_fstore, ↓e_astore, ↓e_iinc, ↓e_ifeq, ↓e_iceq, ↓e_ifne, ↓e_icne, ↓e_iflt, ↓e_iclt, ↓e_ifge, ↓e_icge, ↓e_ifgt, ↓e_icgt, ↓e_ifle, ↓e_icle, ↓e_goto, ↓e_dup, ↓e_pop, ↓e_dup_x1, ↓e_dup2, ↓e_getf, ↓e_putI, ↓e_putJ, ↓e_putC, ↓e_putR, ↓e_iald, ↓e_zald, ↓e_cald, ↓e_lald, ↓e_dald, ↓e_iast, ↓e_zast, ↓e_cast, ↓e_last, ↓e_dast, ↓e_aald, ↓e_alen, ↓e_throw, ↓e_iret, ↓e_zret, ↓e_cret, ↓e_aret, ↓e_lret, ↓e_fret, ↓e_dret, ↓e_vret, ↓e_new, ↓e_newarr, ↓e_pop1, ↓e_siald, ↓e_salen, ↓e_call, ↓e_callV, ↓e_callI, ↓e_call0, ↓e_callR, PI_e, PFl_e, PD_e, PR_e, PO_e, PHd_e, PA_e, PA_n, IX_e, IX_0, reduceIte, lget, lset, lclr, fget, ctake, cdrop, c1, Nat.reduceAdd, List.reverse_cons, List.reverse_nil, List.nil_append, List.cons_append, Option.toList_some, Option.toList_none, List.length_cons, List.length_nil, true_and, and_true, true_or, or_true, Nat.reduceLeDiff, Nat.reduceLT, Nat.zero_le, List.append_nil]) | refine ⟨_, rfl, by omega, by omega, ?_⟩ | (refine And.intro ?_ ?_; focus (first | exact b2i_01 _ | assumption | decide | (simp; done))))
def T_AL_size (g : GG) : Spec2 := fun as f Q X => ∃ (O : AH) (ad : Nat → Nat) (sh : Sh) (V : CV) (L : Int64) (o : Nat) , as = [.ref (ad o)] ∧ CR g O f ad sh V L ∧ kd sh o = 10 ∧ ∀ f', CR g O f' ad sh (V) (L) → Q (some (.int (V o 2))) f'
theorem i_AL_size_ {g : GG} {O : AH} {ad : Nat → Nat} {sh : Sh} {V : CV} {L : Int64} {o : Nat}  {f : AH} {Q : Option Value → AH → Prop} {X : String → AH → Prop} (hM : CR g O f ad sh V L) (hk : kd sh o = 10) (h : ∀ f', CR g O f' ad sh (V) (L) → Q (some (.int (V o 2))) f') : T_AL_size g [.ref (ad o)] f Q X := ⟨O, ad, sh, V, L, o, rfl, hM, hk, h⟩
abbrev m_AL_size (g : GG) (l : Launch) : MI := (RJx4a65c, cJx4a65c_size_8abf5, 1, (some .int), [], false, 1, g, l)
def b_AL_size_0 (g : GG) : Blk := [(1, o_aload 0), (3, o_getf 0 2), (1, o_iret)]
set_option maxRecDepth 8000 in
theorem okb_AL_size_0 (g : GG) (l : Launch) (hst : l.stackTraces = false) : BlkOk (m_AL_size g l) 0 (b_AL_size_0 g) := 
  ⟨ok_aload_n (by decide +kernel : decode cJx4a65c_size_8abf5 0 = .ok (.aload_n 0, 1)) rfl,
  ⟨ok_getf cls_0 (Nat.le_of_ble_eq_true rfl) tw_77 rfl (by decide +kernel : decode cJx4a65c_size_8abf5 1 = .ok (.getfield 48, 3)),
  ⟨ok_iret rfl (by decide +kernel : decode cJx4a65c_size_8abf5 4 = .ok (.ireturn, 1)), trivial⟩⟩⟩
def k_AL_size (g : GG) : List (Nat × Blk) := [(0, b_AL_size_0 g)]
theorem ok_AL_size (g : GG) (l : Launch) (hst : l.stackTraces = false) : ∀ b ∈ k_AL_size g, BlkOk (m_AL_size g l) b.1 b.2 := List.forall_mem_cons.mpr ⟨okb_AL_size_0 g l hst, fun _ h => by cases h⟩
def i_AL_size (g : GG) : List (Nat × Blk) := []
theorem is_AL_size (g : GG) : ∀ x ∈ i_AL_size g, x ∈ k_AL_size g := sub_at [] rfl
theorem w_AL_size_0 (g : GG) (u : Unit) (n : List Unit) (B : Bx) (Q : Option Value → AH → Prop) (X : String → AH → Prop) (lv : LV) (st : List Value) (f : AH) (bc bs : Nat) : wpF (i_AL_size g) (u :: n) B Q X 0 lv st f bc bs = B 0 lv st f bc bs := (rfl)
set_option maxRecDepth 4000 in
set_option maxHeartbeats 4000000 in
theorem s_AL_size (g : GG) (l : Launch) (hst : l.stackTraces = false) : Snd yJx4a65c_size_8abf5 (m_AL_size g l) 0 0 (T_AL_size g) := by
  refine snd_of (plainFor_of_name (by decide)) rfl (fun h => by first | rfl | cases h) rfl hst (k_AL_size g) (ok_AL_size g l hst) ?_
  rintro as f Q X ⟨O, ad, sh, V, L, o, rfl, hM, hk, hq⟩
  refine ⟨[some (.ref (ad o))], rfl, Nat.le_of_ble_eq_true rfl, fun B run => ?_⟩
  repeat (first | (refine hq _ ?_; exact hM) | (refine hx _ ?_; exact hM) | (refine run _ _ (i_AL_size g) [()] rfl (is_AL_size g) _ _ _ _ _ ?_; (try simp only [Option.toList_some, Option.toList_none, List.cons_append, List.nil_append, List.append_nil]); simp -dsimp (disch := omega) only [thr_n, wdC_n, wrC_n, tchC_n, wpF_0, ↓e_no, ↓e_any, c2_n, ↓e_callX, ↓e_callX0, ↓e_callF0, ↓e_cstc, ↓hobj_c (hM.o10 hk), c2_s, c2_n, eq_self, nI_dec, ixE, nI_4m, nI_16m, nI_10m, nI_2m, nI_add, nI_1, nI_p2, nI_p3, nI_pred, c3_n, c3_s, c3_i, upd_s, upd_n, rowU_n, rowU_ge, true_imp_iff, false_imp_iff, not_true_eq_false, not_false_eq_true, b2i_t, b2i_f, i32_10, i32_00, i32_11, ite_true_I, false_and, and_false, true_and, and_true, or_true, true_or, false_or, or_false, w_AL_size_0, ↓b_AL_size_0, ↓wpL_n, ↓wpL_c, ↓e_iadd, ↓e_isub, ↓e_imul, ↓e_iand, ↓e_ior, ↓e_ixor, ↓e_ishl, ↓e_ishr, ↓e_iushr, ↓e_idiv, ↓e_irem, ↓e_ineg, ↓e_ladd, ↓e_lcmp, ↓e_i2l, ↓e_i2c, ↓e_i2d, ↓e_i2f, ↓e_l2f, ↓e_f2d, ↓e_fdiv, ↓e_ddiv, ↓e_dcmp_l, ↓e_fcmp_l, ↓e_dcmp_g, ↓e_fcmp_g, ↓e_push, ↓e_iload, ↓e_fload, ↓e_dload, ↓e_aload, ↓e_istore, ↓e_fstore, ↓e_astore, ↓e_iinc, ↓e_ifeq, ↓e_iceq, ↓e_ifne, ↓e_icne, ↓e_iflt, ↓e_iclt, ↓e_ifge, ↓e_icge, ↓e_ifgt, ↓e_icgt, ↓e_ifle, ↓e_icle, ↓e_goto, ↓e_dup, ↓e_pop, ↓e_dup_x1, ↓e_dup2, ↓e_getf, ↓e_putI, ↓e_putJ, ↓e_putC, ↓e_putR, ↓e_iald, ↓e_zald, ↓e_cald, ↓e_lald, ↓e_dald, ↓e_iast, ↓e_zast, ↓e_cast, ↓e_last, ↓e_dast, ↓e_aald, ↓e_alen, ↓e_throw, ↓e_iret, ↓e_zret, ↓e_cret, ↓e_aret, ↓e_lret, ↓e_fret, ↓e_dret, ↓e_vret, ↓e_new, ↓e_newarr, ↓e_pop1, ↓e_siald, ↓e_salen, ↓e_call, ↓e_callV, ↓e_callI, ↓e_call0, ↓e_callR, PI_e, PFl_e, PD_e, PR_e, PO_e, PHd_e, PA_e, PA_n, IX_e, IX_0, reduceIte, lget, lset, lclr, fget, ctake, cdrop, c1, Nat.reduceAdd, List.reverse_cons, List.reverse_nil, List.nil_append, List.cons_append, Option.toList_some, Option.toList_none, List.length_cons, List.length_nil, true_and, and_true, true_or, or_true, Nat.reduceLeDiff, Nat.reduceLT, Nat.zero_le, List.append_nil]) | refine ⟨_, rfl, by omega, by omega, ?_⟩ | (refine ⟨0, 0, rfl, rfl, ?_⟩) | (refine ⟨1, 6, rfl, rfl, ?_⟩) | (refine ⟨2, 12, rfl, rfl, ?_⟩) | (refine And.intro ?_ ?_; focus (first | exact b2i_01 _ | assumption | decide | (simp; done))))
/-- which codes a list holds, and how many -/
def lco (o j : Nat) : Nat := if o = 4 then 100 + 10 * j else if o = 7 then 300 + j else 400 + 20 * j
def lcn (sh : Sh) (o : Nat) : Nat := if o = 4 then sh.C else if o = 7 then sh.F else sh.S
def isL (o : Nat) : Prop := o = 4 ∨ o = 7 ∨ o = 14
theorem CR.rl {g : GG} {O f : AH} {ad : Nat → Nat} {sh : Sh} {V : CV} {L : Int64} {o : Nat} (h : CR g O f ad sh V L) (ho : isL o) (hN : sh.N (o + 1) ≠ 0) : f (ad (o + 1)) = some (.inl (7, sh.N (o + 1), .inr (.inr (.inr (.inr fun j => if j < lcn sh o then some (ad (lco o j)) else none))))) := by
  rcases ho with rfl | rfl | rfl
  · exact h.r22 (i := 5) (by show (if sh.N 5 = 0 then 0 else 22) = 22; rw [if_neg hN])
  · exact h.r23 (i := 8) (by show (if sh.N 8 = 0 then 0 else 23) = 23; rw [if_neg hN])
  · exact h.r24 (i := 15) (by show (if sh.N 15 = 0 then 0 else 24) = 24; rw [if_neg hN])
/-- a list in order -/
def LsOk (sh : Sh) (V : CV) (o : Nat) : Prop := isL o ∧ V o 2 = nI (lcn sh o) ∧ lcn sh o ≤ sh.N (o + 1) ∧ sh.N (o + 1) ≤ 1000
def T_AL_elementData (g : GG) : Spec2 := fun as f Q X => ∃ (O : AH) (ad : Nat → Nat) (sh : Sh) (V : CV) (L : Int64) (o : Nat) (i : Nat), as = [.ref (ad o), .int (nI i)] ∧ CR g O f ad sh V L ∧ kd sh o = 10 ∧ (LsOk sh V o ∧ i < lcn sh o) ∧ ∀ f', CR g O f' ad sh (V) (L) → Q (some (.ref (ad (lco o i)))) f'
theorem i_AL_elementData_ {g : GG} {O : AH} {ad : Nat → Nat} {sh : Sh} {V : CV} {L : Int64} {o : Nat} {i : Nat} {f : AH} {Q : Option Value → AH → Prop} {X : String → AH → Prop} (hM : CR g O f ad sh V L) (hk : kd sh o = 10) (hp : LsOk sh V o ∧ i < lcn sh o) (h : ∀ f', CR g O f' ad sh (V) (L) → Q (some (.ref (ad (lco o i)))) f') : T_AL_elementData g [.ref (ad o), .int (nI i)] f Q X := ⟨O, ad, sh, V, L, o, i, rfl, hM, hk, hp, h⟩
abbrev m_AL_elementData (g : GG) (l : Launch) : MI := (RJx4a65c, cJx4a65c_elementData_915e3, 2, (some (.object "java/lang/Object")), [], false, 1, g, l)
def b_AL_elementData_0 (g : GG) : Blk := [(1, o_aload 0), (3, o_getf 0 1), (1, o_iload 1), (1, o_aald 7), (1, o_aret)]
set_option maxRecDepth 8000 in
theorem okb_AL_elementData_0 (g : GG) (l : Launch) (hst : l.stackTraces = false) : BlkOk (m_AL_elementData g l) 0 (b_AL_elementData_0 g) := 
  ⟨ok_aload_n (by decide +kernel : decode cJx4a65c_elementData_915e3 0 = .ok (.aload_n 0, 1)) rfl,
  ⟨ok_getf cls_0 (Nat.le_of_ble_eq_true rfl) tw_76 rfl (by decide +kernel : decode cJx4a65c_elementData_915e3 1 = .ok (.getfield 9, 3)),
  ⟨ok_iload_n (by decide +kernel : decode cJx4a65c_elementData_915e3 4 = .ok (.iload_n 1, 1)) rfl,
  ⟨ok_aald (by decide) (by decide +kernel : decode cJx4a65c_elementData_915e3 5 = .ok (.aaload, 1)),
  ⟨ok_aret rfl (Or.inl ⟨_, rfl⟩) (by decide +kernel : decode cJx4a65c_elementData_915e3 6 = .ok (.areturn, 1)), trivial⟩⟩⟩⟩⟩
def k_AL_elementData (g : GG) : List (Nat × Blk) := [(0, b_AL_elementData_0 g)]
theorem ok_AL_elementData (g : GG) (l : Launch) (hst : l.stackTraces = false) : ∀ b ∈ k_AL_elementData g, BlkOk (m_AL_elementData g l) b.1 b.2 := List.forall_mem_cons.mpr ⟨okb_AL_elementData_0 g l hst, fun _ h => by cases h⟩
def i_AL_elementData (g : GG) : List (Nat × Blk) := []
theorem is_AL_elementData (g : GG) : ∀ x ∈ i_AL_elementData g, x ∈ k_AL_elementData g := sub_at [] rfl
theorem w_AL_elementData_0 (g : GG) (u : Unit) (n : List Unit) (B : Bx) (Q : Option Value → AH → Prop) (X : String → AH → Prop) (lv : LV) (st : List Value) (f : AH) (bc bs : Nat) : wpF (i_AL_elementData g) (u :: n) B Q X 0 lv st f bc bs = B 0 lv st f bc bs := (rfl)
set_option maxRecDepth 4000 in
set_option maxHeartbeats 4000000 in
theorem s_AL_elementData (g : GG) (l : Launch) (hst : l.stackTraces = false) : Snd yJx4a65c_elementData_915e3 (m_AL_elementData g l) 0 0 (T_AL_elementData g) := by
  refine snd_of (plainFor_of_name (by decide)) rfl (fun h => by first | rfl | cases h) rfl hst (k_AL_elementData g) (ok_AL_elementData g l hst) ?_
  rintro as f Q X ⟨O, ad, sh, V, L, o, i, rfl, hM, hk, hp, hq⟩
  refine ⟨[some (.ref (ad o)), some (.int (nI i))], rfl, Nat.le_of_ble_eq_true rfl, fun B run => ?_⟩
  obtain ⟨⟨hL, h1, h2, h3⟩, hi⟩ := hp
  have hN : sh.N (o + 1) ≠ 0 := by omega
  have hA := fun (f : AH) (hM : CR g O f ad sh V L) => hM.rl hL hN
  have hi2 : (if i < lcn sh o then some (ad (lco o i)) else none) = some (ad (lco o i)) := if_pos hi
  repeat (first | (refine hq _ ?_; exact hM) | (refine hx _ ?_; exact hM) | (refine run _ _ (i_AL_elementData g) [()] rfl (is_AL_elementData g) _ _ _ _ _ ?_; (try simp only [Option.toList_some, Option.toList_none, List.cons_append, List.nil_append, List.append_nil]); simp -dsimp (disch := omega) only [hN, ↓hAR_c (hM.rl hL hN), hi2, thr_n, wdC_n, wrC_n, tchC_n, wpF_0, ↓e_no, ↓e_any, c2_n, ↓e_callX, ↓e_callX0, ↓e_callF0, ↓e_cstc, ↓hobj_c (hM.o10 hk), c2_s, c2_n, eq_self, nI_dec, ixE, nI_4m, nI_16m, nI_10m, nI_2m, nI_add, nI_1, nI_p2, nI_p3, nI_pred, c3_n, c3_s, c3_i, upd_s, upd_n, rowU_n, rowU_ge, true_imp_iff, false_imp_iff, not_true_eq_false, not_false_eq_true, b2i_t, b2i_f, i32_10, i32_00, i32_11, ite_true_I, false_and, and_false, true_and, and_true, or_true, true_or, false_or, or_false, w_AL_elementData_0, ↓b_AL_elementData_0, ↓wpL_n, ↓wpL_c, ↓e_iadd, ↓e_isub, ↓e_imul, ↓e_iand, ↓e_ior, ↓e_ixor, ↓e_ishl, ↓e_ishr, ↓e_iushr, ↓e_idiv, ↓e_irem, ↓e_ineg, ↓e_ladd, ↓e_lcmp, ↓e_i2l, ↓e_i2c, ↓e_i2d, ↓e_i2f, ↓e_l2f, ↓e_f2d, ↓e_fdiv, ↓e_ddiv, ↓e_dcmp_l, ↓e_fcmp_l, ↓e_dcmp_g, ↓e_fcmp_g, ↓e_push, ↓e_iload, ↓e_fload, ↓e_dload, ↓e_aload, ↓e_istore, ↓e_fstore, ↓e_astore, ↓e_iinc, ↓e_ifeq, ↓e_iceq, ↓e_ifne, ↓e_icne, ↓e_iflt, ↓e_iclt, ↓e_ifge, ↓e_icge, ↓e_ifgt, ↓e_icgt, ↓e_ifle, ↓e_icle, ↓e_goto, ↓e_dup, ↓e_pop, ↓e_dup_x1, ↓e_dup2, ↓e_getf, ↓e_putI, ↓e_putJ, ↓e_putC, ↓e_putR, ↓e_iald, ↓e_zald, ↓e_cald, ↓e_lald, ↓e_dald, ↓e_iast, ↓e_zast, ↓e_cast, ↓e_last, ↓e_dast, ↓e_aald, ↓e_alen, ↓e_throw, ↓e_iret, ↓e_zret, ↓e_cret, ↓e_aret, ↓e_lret, ↓e_fret, ↓e_dret, ↓e_vret, ↓e_new, ↓e_newarr, ↓e_pop1, ↓e_siald, ↓e_salen, ↓e_call, ↓e_callV, ↓e_callI, ↓e_call0, ↓e_callR, PI_e, PFl_e, PD_e, PR_e, PO_e, PHd_e, PA_e, PA_n, IX_e, IX_0, reduceIte, lget, lset, lclr, fget, ctake, cdrop, c1, Nat.reduceAdd, List.reverse_cons, List.reverse_nil, List.nil_append, List.cons_append, Option.toList_some, Option.toList_none, List.length_cons, List.length_nil, true_and, and_true, true_or, or_true, Nat.reduceLeDiff, Nat.reduceLT, Nat.zero_le, List.append_nil]) | refine ⟨_, rfl, by omega, by omega, ?_⟩ | (refine ⟨0, 0, rfl, rfl, ?_⟩) | (refine ⟨1, 6, rfl, rfl, ?_⟩) | (refine ⟨2, 12, rfl, rfl, ?_⟩) | (refine And.intro ?_ ?_; focus (first | exact b2i_01 _ | assumption | decide | (simp; done))))
def T_AL_get (g : GG) : Spec2 := fun as f Q X => ∃ (O : AH) (ad : Nat → Nat) (sh : Sh) (V : CV) (L : Int64) (o : Nat) (i : Nat), as = [.ref (ad o), .int (nI i)] ∧ CR g O f ad sh V L ∧ kd sh o = 10 ∧ (LsOk sh V o ∧ i < lcn sh o) ∧ ∀ f', CR g O f' ad sh (V) (L) → Q (some (.ref (ad (lco o i)))) f'
theorem i_AL_get_ {g : GG} {O : AH} {ad : Nat → Nat} {sh : Sh} {V : CV} {L : Int64} {o : Nat} {i : Nat} {f : AH} {Q : Option Value → AH → Prop} {X : String → AH → Prop} (hM : CR g O f ad sh V L) (hk : kd sh o = 10) (hp : LsOk sh V o ∧ i < lcn sh o) (h : ∀ f', CR g O f' ad sh (V) (L) → Q (some (.ref (ad (lco o i)))) f') : T_AL_get g [.ref (ad o), .int (nI i)] f Q X := ⟨O, ad, sh, V, L, o, i, rfl, hM, hk, hp, h⟩
abbrev m_AL_get (g : GG) (l : Launch) : MI := (RJx4a65c, cJx4a65c_get_915e3, 2, (some (.object "java/lang/Object")), [], false, 3, g, l)
def b_AL_get_0 (g : GG) : Blk := [(1, o_iload 1), (1, o_aload 0), (3, o_getf 0 2), (3, o_call0 T_Ob_checkIndex 2)]
def b_AL_get_8 (g : GG) : Blk := [(1, o_pop), (1, o_aload 0), (1, o_iload 1), (3, o_callR (o_call0 (T_AL_elementData g) 2) 0 2)]
def b_AL_get_14 (g : GG) : Blk := [(1, o_aret)]
set_option maxRecDepth 8000 in
theorem okb_AL_get_0 (g : GG) (l : Launch) (hst : l.stackTraces = false) : BlkOk (m_AL_get g l) 0 (b_AL_get_0 g) := 
  ⟨ok_iload_n (by decide +kernel : decode cJx4a65c_get_915e3 0 = .ok (.iload_n 1, 1)) rfl,
  ⟨ok_aload_n (by decide +kernel : decode cJx4a65c_get_915e3 1 = .ok (.aload_n 0, 1)) rfl,
  ⟨ok_getf cls_0 (Nat.le_of_ble_eq_true rfl) tw_77 rfl (by decide +kernel : decode cJx4a65c_get_915e3 2 = .ok (.getfield 48, 3)),
  ⟨(ok_callS (k := 2) (s_Ob_checkIndex g l hst) (show 2 < 3 from by decide) (Nat.le_of_ble_eq_true rfl) rfl rfl tw_209 tw_210 tw_14 tw_211 ⟨by decide, by decide, by decide⟩ (by decide +kernel : decode cJx4a65c_get_915e3 5 = .ok (.invokestatic 118, 3))).mono call0_of, trivial⟩⟩⟩⟩
set_option maxRecDepth 8000 in
theorem okb_AL_get_8 (g : GG) (l : Launch) (hst : l.stackTraces = false) : BlkOk (m_AL_get g l) 8 (b_AL_get_8 g) := 
  ⟨ok_pop (by decide +kernel : decode cJx4a65c_get_915e3 8 = .ok (.pop, 1)),
  ⟨ok_aload_n (by decide +kernel : decode cJx4a65c_get_915e3 9 = .ok (.aload_n 0, 1)) rfl,
  ⟨ok_iload_n (by decide +kernel : decode cJx4a65c_get_915e3 10 = .ok (.iload_n 1, 1)) rfl,
  ⟨(ok_callV (k := 1) cls_0 (s_AL_elementData g l hst) (show 1 < 3 from by decide) (Nat.le_of_ble_eq_true rfl) rfl rfl tw_215 tw_216 tw_217 tw_5 tw_218 ⟨by decide, by decide, by decide⟩ (by decide +kernel : decode cJx4a65c_get_915e3 11 = .ok (.invokevirtual 123, 3))).mono callR0_of, trivial⟩⟩⟩⟩
set_option maxRecDepth 8000 in
theorem okb_AL_get_14 (g : GG) (l : Launch) (hst : l.stackTraces = false) : BlkOk (m_AL_get g l) 14 (b_AL_get_14 g) := 
  ⟨ok_aret rfl (Or.inl ⟨_, rfl⟩) (by decide +kernel : decode cJx4a65c_get_915e3 14 = .ok (.areturn, 1)), trivial⟩
def k_AL_get (g : GG) : List (Nat × Blk) := [(0, b_AL_get_0 g), (8, b_AL_get_8 g), (14, b_AL_get_14 g)]
theorem ok_AL_get (g : GG) (l : Launch) (hst : l.stackTraces = false) : ∀ b ∈ k_AL_get g, BlkOk (m_AL_get g l) b.1 b.2 := List.forall_mem_cons.mpr ⟨okb_AL_get_0 g l hst, List.forall_mem_cons.mpr ⟨okb_AL_get_8 g l hst, List.forall_mem_cons.mpr ⟨okb_AL_get_14 g l hst, fun _ h => by cases h⟩⟩⟩
def i_AL_get (g : GG) : List (Nat × Blk) := []
theorem is_AL_get (g : GG) : ∀ x ∈ i_AL_get g, x ∈ k_AL_get g := sub_at [] rfl
theorem w_AL_get_0 (g : GG) (u : Unit) (n : List Unit) (B : Bx) (Q : Option Value → AH → Prop) (X : String → AH → Prop) (lv : LV) (st : List Value) (f : AH) (bc bs : Nat) : wpF (i_AL_get g) (u :: n) B Q X 0 lv st f bc bs = B 0 lv st f bc bs := (rfl)
theorem w_AL_get_8 (g : GG) (u : Unit) (n : List Unit) (B : Bx) (Q : Option Value → AH → Prop) (X : String → AH → Prop) (lv : LV) (st : List Value) (f : AH) (bc bs : Nat) : wpF (i_AL_get g) (u :: n) B Q X 8 lv st f bc bs = B 8 lv st f bc bs := (rfl)
theorem w_AL_get_14 (g : GG) (u : Unit) (n : List Unit) (B : Bx) (Q : Option Value → AH → Prop) (X : String → AH → Prop) (lv : LV) (st : List Value) (f : AH) (bc bs : Nat) : wpF (i_AL_get g) (u :: n) B Q X 14 lv st f bc bs = B 14 lv st f bc bs := (rfl)
set_option maxRecDepth 4000 in
set_option maxHeartbeats 4000000 in
theorem s_AL_get (g : GG) (l : Launch) (hst : l.stackTraces = false) : Snd yJx4a65c_get_915e3 (m_AL_get g l) 0 0 (T_AL_get g) := by
  refine snd_of (plainFor_of_name (by decide)) rfl (fun h => by first | rfl | cases h) rfl hst (k_AL_get g) (ok_AL_get g l hst) ?_
  rintro as f Q X ⟨O, ad, sh, V, L, o, i, rfl, hM, hk, hp, hq⟩
  refine ⟨[some (.ref (ad o)), some (.int (nI i))], rfl, Nat.le_of_ble_eq_true rfl, fun B run => ?_⟩
  obtain ⟨⟨hL, h1, h2, h3⟩, hi⟩ := hp
  have hp : LsOk sh V o ∧ i < lcn sh o := ⟨⟨hL, h1, h2, h3⟩, hi⟩
  have hc : i < lcn sh o ∧ lcn sh o < 2147483648 := ⟨hi, by omega⟩
  repeat (first | (refine hq _ ?_; exact hM) | (refine hx _ ?_; exact hM) | (refine i_Ob_checkIndex_ hc ?_) | (refine i_AL_elementData_ hM hk hp fun f hM => ?_) | (refine i_Ob_checkIndex_ ?_ ?_; (focus ((repeat' (first | assumption | omega | apply And.intro | rfl)); done))) | (refine i_AL_elementData_ hM ?_ ?_ fun f hM => ?_; (focus with_reducible assumption); (focus ((repeat' (first | assumption | omega | apply And.intro | rfl)); done))) | (refine run _ _ (i_AL_get g) [()] rfl (is_AL_get g) _ _ _ _ _ ?_; (try simp only [Option.toList_some, Option.toList_none, List.cons_append, List.nil_append, List.append_nil]); simp -dsimp (disch := omega) only [h1, thr_n, wdC_n, wrC_n, tchC_n, wpF_0, ↓e_no, ↓e_any, c2_n, ↓e_callX, ↓e_callX0, ↓e_callF0, ↓e_cstc, ↓hobj_c (hM.o10 hk), c2_s, c2_n, eq_self, nI_dec, ixE, nI_4m, nI_16m, nI_10m, nI_2m, nI_add, nI_1, nI_p2, nI_p3, nI_pred, c3_n, c3_s, c3_i, upd_s, upd_n, rowU_n, rowU_ge, true_imp_iff, false_imp_iff, not_true_eq_false, not_false_eq_true, b2i_t, b2i_f, i32_10, i32_00, i32_11, ite_true_I, false_and, and_false, true_and, and_true, or_true, true_or, false_or, or_false, w_AL_get_0, w_AL_get_8, w_AL_get_14, ↓b_AL_get_0, ↓b_AL_get_8, ↓b_AL_get_14, ↓wpL_n, ↓wpL_c, ↓e_iadd, ↓e_isub, ↓e_imul, ↓e_iand, ↓e_ior, ↓e_ixor, ↓e_ishl, ↓e_ishr, ↓e_iushr, ↓e_idiv, ↓e_irem, ↓e_ineg, ↓e_ladd, ↓e_lcmp, ↓e_i2l, ↓e_i2c, ↓e_i2d, ↓e_i2f, ↓e_l2f, ↓e_f2d, ↓e_fdiv, ↓e_ddiv, ↓e_dcmp_l, ↓e_fcmp_l, ↓e_dcmp_g, ↓e_fcmp_g, ↓e_push, ↓e_iload, ↓e_fload, ↓e_dload, ↓e_aload, ↓e_istore, ↓e_fstore, ↓e_astore, ↓e_iinc, ↓e_ifeq, ↓e_iceq, ↓e_ifne, ↓e_icne, ↓e_iflt, ↓e_iclt, ↓e_ifge, ↓e_icge, ↓e_ifgt, ↓e_icgt, ↓e_ifle, ↓e_icle, ↓e_goto, ↓e_dup, ↓e_pop, ↓e_dup_x1, ↓e_dup2, ↓e_getf, ↓e_putI, ↓e_putJ, ↓e_putC, ↓e_putR, ↓e_iald, ↓e_zald, ↓e_cald, ↓e_lald, ↓e_dald, ↓e_iast, ↓e_zast, ↓e_cast, ↓e_last, ↓e_dast, ↓e_aald, ↓e_alen, ↓e_throw, ↓e_iret, ↓e_zret, ↓e_cret, ↓e_aret, ↓e_lret, ↓e_fret, ↓e_dret, ↓e_vret, ↓e_new, ↓e_newarr, ↓e_pop1, ↓e_siald, ↓e_salen, ↓e_call, ↓e_callV, ↓e_callI, ↓e_call0, ↓e_callR, PI_e, PFl_e, PD_e, PR_e, PO_e, PHd_e, PA_e, PA_n, IX_e, IX_0, reduceIte, lget, lset, lclr, fget, ctake, cdrop, c1, Nat.reduceAdd, List.reverse_cons, List.reverse_nil, List.nil_append, List.cons_append, Option.toList_some, Option.toList_none, List.length_cons, List.length_nil, true_and, and_true, true_or, or_true, Nat.reduceLeDiff, Nat.reduceLT, Nat.zero_le, List.append_nil]) | refine ⟨_, rfl, by omega, by omega, ?_⟩ | (refine ⟨0, 0, rfl, rfl, ?_⟩) | (refine ⟨1, 6, rfl, rfl, ?_⟩) | (refine ⟨2, 12, rfl, rfl, ?_⟩) | (refine And.intro ?_ ?_; focus (first | exact b2i_01 _ | assumption | decide | (simp; done))))


