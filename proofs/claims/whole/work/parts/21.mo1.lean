/-! ===== the reference: its log and its bounds ===== -/
theorem b2i_t : b2i true = 1 := rfl
theorem b2i_f : b2i false = 0 := rfl
theorem i32_10 : ((1 : Int32) = 0) = False := by simp
theorem i32_00 : ((0 : Int32) = 0) = True := by simp
theorem i32_11 : ((1 : Int32) = 1) = True := by simp
theorem ite_true_I {α : Type} (a b : α) : (if True then a else b) = a := rfl
theorem nI_4m (a : Nat) : 4 * nI a = nI (4 * a) := (Int32.ofNat_mul 4 a).symm
theorem nI_16m (a : Nat) : 16 * nI a = nI (16 * a) := (Int32.ofNat_mul 16 a).symm
theorem nI_10m (a : Nat) : 10 * nI a = nI (10 * a) := (Int32.ofNat_mul 10 a).symm
theorem nI_2m (a : Nat) : 2 * nI a = nI (2 * a) := (Int32.ofNat_mul 2 a).symm
theorem nI_p2 (a : Nat) : nI a + 2 = nI (a + 2) := nI_add a 2
theorem nI_p3 (a : Nat) : nI a + 3 = nI (a + 3) := nI_add a 3
theorem nI_dec (a : Nat) : nI a + -1 = nI a - 1 := (Int32.sub_eq_add_neg _ _).symm
theorem nI_m1 {a : Nat} (h : 0 < a) : nI a - 1 = nI (a - 1) := by
  obtain ⟨b, rfl⟩ := Nat.exists_eq_add_of_lt h
  rw [show 0 + b + 1 = b + 1 by omega, nI_pred]
  rfl
theorem nI_d16 {a : Nat} (h : a < 2147483648) : nI a / 16 = nI (a / 16) := by
  apply Int32.toInt_inj.mp
  rw [Int32.toInt_div, nI_toInt h, nI_toInt (by omega), show (16 : Int32).toInt = 16 from rfl]
  rw [Int.tdiv_eq_ediv_of_nonneg (by omega)]
  rw [Int.bmod_eq_of_le (by omega) (by omega)]
  omega
theorem ixE {a n : Nat} {P : Nat → Prop} (h1 : a < n) (h2 : a < 2147483648) : (∃ j, nI a = nI j ∧ j < n ∧ j < 2147483648 ∧ P j) ↔ P a := by
  constructor
  · rintro ⟨j, e, -, h4, h5⟩
    rw [(nI_eq h2 h4).mp e]
    exact h5
  · exact fun h => ⟨a, rfl, h1, h2, h⟩
/-- a natural number -/
def nn (x : Int32) : Nat := x.toNatClampNeg
theorem nn_nI {n : Nat} (h : n < 2147483648) : nn (nI n) = n := nI_clamp h
def Nb (x : Int32) (b : Nat) : Prop := ∃ n, n ≤ b ∧ x = nI n
theorem Nb_nI {x : Int32} {b : Nat} (h : Nb x b) (hb : b < 2147483648) : x = nI (nn x) ∧ nn x ≤ b := by
  obtain ⟨n, hn, rfl⟩ := h
  rw [nn_nI (by omega)]
  exact ⟨rfl, hn⟩
theorem upd_s (f : Nat → Int32) (j : Nat) (x : Int32) : upd f j x j = x := if_pos rfl
theorem upd_n (f : Nat → Int32) {j j' : Nat} (x : Int32) (h : j' ≠ j) : upd f j x j' = f j' := if_neg h
/-- the first m places of a row are F's -/
def rowU (cm : CM) (k i : Nat) (F : Nat → Int32) (m : Nat) : CM := fun k' => if k' = k then (fun i' => if i' = i then (fun j' => if j' < m then F j' else cm k i j') else cm k i') else cm k'
theorem rowU_0 (cm : CM) (k i : Nat) (F : Nat → Int32) : rowU cm k i F 0 = cm := by
  funext k' i' j'
  by_cases e : k' = k
  · subst e
    by_cases e2 : i' = i
    · subst e2
      simp [rowU]
    · simp [rowU, e2]
  · simp [rowU, e]
theorem rowU_s (cm : CM) (k i : Nat) (F : Nat → Int32) (m : Nat) : c3 (rowU cm k i F m) k i m (F m) = rowU cm k i F (m + 1) := by
  funext k' i' j'
  simp only [rowU, c3]
  by_cases e : k' = k
  · by_cases e2 : i' = i
    · by_cases e3 : j' = m
      · simp [e, e2, e3]
      · by_cases e4 : j' < m
        · simp [e, e2, e3, e4, show j' < m + 1 by omega]
        · simp [e, e2, e3, e4, show ¬ j' < m + 1 by omega]
    · simp [e, e2]
  · simp [e]
theorem rowU_n {cm : CM} {k i k' : Nat} {F : Nat → Int32} {m : Nat} (h : k' ≠ k) : rowU cm k i F m k' = cm k' := if_neg h
theorem rowU_ge {cm : CM} {k i : Nat} {F : Nat → Int32} {m j : Nat} (h : m ≤ j) : rowU cm k i F m k i j = cm k i j := by
  simp [rowU, show ¬ j < m by omega]
theorem rowU_lt {cm : CM} {k i : Nat} {F : Nat → Int32} {m j : Nat} (h : j < m) : rowU cm k i F m k i j = F j := by
  simp [rowU, h]
def b01 (x : Int32) : Prop := x = 0 ∨ x = 1
theorem i110_97 : ((110 : Int32) = 97) = False := by simp
theorem i110_111 : ((110 : Int32) = 111) = False := by simp
theorem i97_110 : ((97 : Int32) = 110) = False := by simp
theorem i111_110 : ((111 : Int32) = 110) = False := by simp
theorem i111_97 : ((111 : Int32) = 97) = False := by simp
theorem or_01 {x y : Int32} (h1 : x = 0 ∨ x = 1) (h2 : y = 0 ∨ y = 1) : (x ||| y) = 0 ∨ (x ||| y) = 1 := by
  rcases h1 with rfl | rfl <;> rcases h2 with rfl | rfl <;> simp
/-- the latest of the first n entries of the log for a cell by a moment, or what was loaded -/
def lkup (cm : CM) (r c : Nat) (mom : Int32) : Nat → Int32
  | 0 => cm 6 0 (4 * r + c)
  | n + 1 => if cm 10 0 n = nI r ∧ cm 11 0 n = nI c ∧ cm 13 0 n ≤ mom then cm 12 0 n else lkup cm r c mom n
def lk (cm : CM) (r c : Nat) (mom : Int32) : Int32 := lkup cm r c mom (nn (cm 2 0 0))
def T_Mo_valueAt3 : Spec2 := fun as f Q _ => ∃ (f0 : AH) (ad : Nat → Nat) (cm : CM) (cl : CL) (r : Nat) (c : Nat) (mom : Int32), as = [.ref (ad 0), .int (nI r), .int (nI c), .int mom] ∧ MR f0 f ad cm cl ∧ (r < 160 ∧ c < 4 ∧ Nb (cm 2 0 0) 1100) ∧ ∀ f', MR f0 f' ad (cm) (cl) → Q (some (.int (lk cm r c mom))) f'
theorem i_Mo_valueAt3_ {f0 : AH} {ad : Nat → Nat} {cm : CM} {cl : CL} {r : Nat} {c : Nat} {mom : Int32} {f : AH} {Q : Option Value → AH → Prop} {X : String → AH → Prop} (hM : MR f0 f ad cm cl) (hp : r < 160 ∧ c < 4 ∧ Nb (cm 2 0 0) 1100) (h : ∀ f', MR f0 f' ad (cm) (cl) → Q (some (.int (lk cm r c mom))) f') : T_Mo_valueAt3 [.ref (ad 0), .int (nI r), .int (nI c), .int mom] f Q X := ⟨f0, ad, cm, cl, r, c, mom, rfl, hM, hp, h⟩
abbrev m_Mo_valueAt3 (g : GG) (l : Launch) : MI := (RX9, cX9_valueAt, 5, (some .int), [], false, 2, g, l)
def b_Mo_valueAt3_0 (g : GG) : Blk := [(1, o_aload 0), (3, o_getf 10 2), (1, o_push (.int 1)), (1, o_isub), (2, o_istore 4)]
def b_Mo_valueAt3_8 (g : GG) : Blk := [(2, o_iload 4), (3, o_iflt 60), (1, o_aload 0), (3, o_getf 10 10), (2, o_iload 4), (1, o_iald), (1, o_iload 1), (3, o_icne 54), (1, o_aload 0), (3, o_getf 10 11), (2, o_iload 4), (1, o_iald), (1, o_iload 2), (3, o_icne 54), (1, o_aload 0), (3, o_getf 10 13), (2, o_iload 4), (1, o_iald), (1, o_iload 3), (3, o_icgt 54), (1, o_aload 0), (3, o_getf 10 12), (2, o_iload 4), (1, o_iald), (1, o_iret)]
def b_Mo_valueAt3_54 (g : GG) : Blk := [(3, o_iinc 4 (-1)), (3, o_goto 8)]
def b_Mo_valueAt3_60 (g : GG) : Blk := [(1, o_aload 0), (3, o_getf 10 6), (1, o_push (.int 4)), (1, o_iload 1), (1, o_imul), (1, o_iload 2), (1, o_iadd), (1, o_iald), (1, o_iret)]
theorem okb_Mo_valueAt3_0 (g : GG) (l : Launch) (hst : l.stackTraces = false) : BlkOk (m_Mo_valueAt3 g l) 0 (b_Mo_valueAt3_0 g) := 
  ⟨ok_aload_n (by decide +kernel : decode cX9_valueAt 0 = .ok (.aload_n 0, 1)) rfl,
  ⟨ok_getf cls_10 (Nat.le_of_ble_eq_true rfl) tw_1260 rfl (by decide +kernel : decode cX9_valueAt 1 = .ok (.getfield 153, 3)),
  ⟨ok_iconst (by decide) (by decide +kernel : decode cX9_valueAt 4 = .ok (.iconst 1, 1)),
  ⟨ok_isub (by decide +kernel : decode cX9_valueAt 5 = .ok (.isub, 1)),
  ⟨ok_istore (Nat.le_of_ble_eq_true rfl) (by decide +kernel : decode cX9_valueAt 6 = .ok (.istore 4, 2)), trivial⟩⟩⟩⟩⟩
theorem okb_Mo_valueAt3_8 (g : GG) (l : Launch) (hst : l.stackTraces = false) : BlkOk (m_Mo_valueAt3 g l) 8 (b_Mo_valueAt3_8 g) := 
  ⟨ok_iload (by decide +kernel : decode cX9_valueAt 8 = .ok (.iload 4, 2)),
  ⟨ok_iflt (by decide) (by decide +kernel : decode cX9_valueAt 10 = .ok (.ifCond .lt 50, 3)),
  ⟨ok_aload_n (by decide +kernel : decode cX9_valueAt 13 = .ok (.aload_n 0, 1)) rfl,
  ⟨ok_getf cls_10 (Nat.le_of_ble_eq_true rfl) tw_1268 rfl (by decide +kernel : decode cX9_valueAt 14 = .ok (.getfield 22, 3)),
  ⟨ok_iload (by decide +kernel : decode cX9_valueAt 17 = .ok (.iload 4, 2)),
  ⟨ok_iald (by decide +kernel : decode cX9_valueAt 19 = .ok (.iaload, 1)),
  ⟨ok_iload_n (by decide +kernel : decode cX9_valueAt 20 = .ok (.iload_n 1, 1)) rfl,
  ⟨ok_icne (by decide) (by decide +kernel : decode cX9_valueAt 21 = .ok (.if_icmp .ne 33, 3)),
  ⟨ok_aload_n (by decide +kernel : decode cX9_valueAt 24 = .ok (.aload_n 0, 1)) rfl,
  ⟨ok_getf cls_10 (Nat.le_of_ble_eq_true rfl) tw_1269 rfl (by decide +kernel : decode cX9_valueAt 25 = .ok (.getfield 25, 3)),
  ⟨ok_iload (by decide +kernel : decode cX9_valueAt 28 = .ok (.iload 4, 2)),
  ⟨ok_iald (by decide +kernel : decode cX9_valueAt 30 = .ok (.iaload, 1)),
  ⟨ok_iload_n (by decide +kernel : decode cX9_valueAt 31 = .ok (.iload_n 2, 1)) rfl,
  ⟨ok_icne (by decide) (by decide +kernel : decode cX9_valueAt 32 = .ok (.if_icmp .ne 22, 3)),
  ⟨ok_aload_n (by decide +kernel : decode cX9_valueAt 35 = .ok (.aload_n 0, 1)) rfl,
  ⟨ok_getf cls_10 (Nat.le_of_ble_eq_true rfl) tw_1271 rfl (by decide +kernel : decode cX9_valueAt 36 = .ok (.getfield 31, 3)),
  ⟨ok_iload (by decide +kernel : decode cX9_valueAt 39 = .ok (.iload 4, 2)),
  ⟨ok_iald (by decide +kernel : decode cX9_valueAt 41 = .ok (.iaload, 1)),
  ⟨ok_iload_n (by decide +kernel : decode cX9_valueAt 42 = .ok (.iload_n 3, 1)) rfl,
  ⟨ok_icgt (by decide) (by decide +kernel : decode cX9_valueAt 43 = .ok (.if_icmp .gt 11, 3)),
  ⟨ok_aload_n (by decide +kernel : decode cX9_valueAt 46 = .ok (.aload_n 0, 1)) rfl,
  ⟨ok_getf cls_10 (Nat.le_of_ble_eq_true rfl) tw_1270 rfl (by decide +kernel : decode cX9_valueAt 47 = .ok (.getfield 28, 3)),
  ⟨ok_iload (by decide +kernel : decode cX9_valueAt 50 = .ok (.iload 4, 2)),
  ⟨ok_iald (by decide +kernel : decode cX9_valueAt 52 = .ok (.iaload, 1)),
  ⟨ok_iret rfl (by decide +kernel : decode cX9_valueAt 53 = .ok (.ireturn, 1)), trivial⟩⟩⟩⟩⟩⟩⟩⟩⟩⟩⟩⟩⟩⟩⟩⟩⟩⟩⟩⟩⟩⟩⟩⟩⟩
theorem okb_Mo_valueAt3_54 (g : GG) (l : Launch) (hst : l.stackTraces = false) : BlkOk (m_Mo_valueAt3 g l) 54 (b_Mo_valueAt3_54 g) := 
  ⟨ok_iinc (by decide) (Nat.le_of_ble_eq_true rfl) (by decide +kernel : decode cX9_valueAt 54 = .ok (.iinc 4 (-1), 3)),
  ⟨ok_goto (by decide) (by decide +kernel : decode cX9_valueAt 57 = .ok (.goto (-49), 3)), trivial⟩⟩
theorem okb_Mo_valueAt3_60 (g : GG) (l : Launch) (hst : l.stackTraces = false) : BlkOk (m_Mo_valueAt3 g l) 60 (b_Mo_valueAt3_60 g) := 
  ⟨ok_aload_n (by decide +kernel : decode cX9_valueAt 60 = .ok (.aload_n 0, 1)) rfl,
  ⟨ok_getf cls_10 (Nat.le_of_ble_eq_true rfl) tw_1264 rfl (by decide +kernel : decode cX9_valueAt 61 = .ok (.getfield 9, 3)),
  ⟨ok_iconst (by decide) (by decide +kernel : decode cX9_valueAt 64 = .ok (.iconst 4, 1)),
  ⟨ok_iload_n (by decide +kernel : decode cX9_valueAt 65 = .ok (.iload_n 1, 1)) rfl,
  ⟨ok_imul (by decide +kernel : decode cX9_valueAt 66 = .ok (.imul, 1)),
  ⟨ok_iload_n (by decide +kernel : decode cX9_valueAt 67 = .ok (.iload_n 2, 1)) rfl,
  ⟨ok_iadd (by decide +kernel : decode cX9_valueAt 68 = .ok (.iadd, 1)),
  ⟨ok_iald (by decide +kernel : decode cX9_valueAt 69 = .ok (.iaload, 1)),
  ⟨ok_iret rfl (by decide +kernel : decode cX9_valueAt 70 = .ok (.ireturn, 1)), trivial⟩⟩⟩⟩⟩⟩⟩⟩⟩
def k_Mo_valueAt3 (g : GG) : List (Nat × Blk) := [(0, b_Mo_valueAt3_0 g), (8, b_Mo_valueAt3_8 g), (54, b_Mo_valueAt3_54 g), (60, b_Mo_valueAt3_60 g)]
theorem ok_Mo_valueAt3 (g : GG) (l : Launch) (hst : l.stackTraces = false) : ∀ b ∈ k_Mo_valueAt3 g, BlkOk (m_Mo_valueAt3 g l) b.1 b.2 := List.forall_mem_cons.mpr ⟨okb_Mo_valueAt3_0 g l hst, List.forall_mem_cons.mpr ⟨okb_Mo_valueAt3_8 g l hst, List.forall_mem_cons.mpr ⟨okb_Mo_valueAt3_54 g l hst, List.forall_mem_cons.mpr ⟨okb_Mo_valueAt3_60 g l hst, fun _ h => by cases h⟩⟩⟩⟩
def i_Mo_valueAt3 (g : GG) : List (Nat × Blk) := [(54, b_Mo_valueAt3_54 g), (60, b_Mo_valueAt3_60 g)]
theorem is_Mo_valueAt3 (g : GG) : ∀ x ∈ i_Mo_valueAt3 g, x ∈ k_Mo_valueAt3 g := sub_at [2, 3] rfl
set_option maxHeartbeats 4000000 in
theorem s_Mo_valueAt3 (g : GG) (l : Launch) (hst : l.stackTraces = false) : Snd yX9_valueAt (m_Mo_valueAt3 g l) 0 0 T_Mo_valueAt3 := by
  refine snd_of (plainFor_of_name (by decide)) rfl (fun h => by first | rfl | cases h) rfl hst (k_Mo_valueAt3 g) (ok_Mo_valueAt3 g l hst) ?_
  rintro as f Q X ⟨f0, ad, cm, cl, r, c, mom, rfl, hM, hp, hq⟩
  refine ⟨[some (.ref (ad 0)), some (.int (nI r)), some (.int (nI c)), some (.int mom), none], rfl, Nat.le_of_ble_eq_true rfl, fun B run => ?_⟩
  obtain ⟨hr, hc, L, hL, hL2⟩ := hp
  rw [lk, hL2, nn_nI (by omega)] at hq
  have loop : ∀ m, m ≤ L → lkup cm r c mom m = lkup cm r c mom L → B 8 [some (.ref (ad 0)), some (.int (nI r)), some (.int (nI c)), some (.int mom), some (.int (nI m - 1))] [] f 0 0 := by
    intro m
    induction m with
    | zero =>
      intro _ e
      rw [← e] at hq
      repeat (first | exact hq _ hM | (refine run _ _ (i_Mo_valueAt3 g) rfl (is_Mo_valueAt3 g) _ _ _ _ _ ?_; simp (disch := omega) only [nI_4m, nI_add, show nI 0 - 1 < 0 from by decide, ↓hobj_c hM.obj, mf_len, mf_2, mf_6, ↓hAI_c (hM.ar 6 rfl), mf_10, ↓hAI_c (hM.ar 10 rfl), mf_11, ↓hAI_c (hM.ar 11 rfl), mf_12, ↓hAI_c (hM.ar 12 rfl), mf_13, ↓hAI_c (hM.ar 13 rfl), eq_self, nI_dec, ixE, nI_4m, nI_16m, nI_10m, nI_2m, nI_add, nI_1, nI_p2, nI_p3, nI_pred, c3_n, c3_s, c3_i, upd_s, upd_n, rowU_n, rowU_ge, true_imp_iff, false_imp_iff, not_true_eq_false, not_false_eq_true, b2i_t, b2i_f, i32_10, i32_00, i32_11, ite_true_I, false_and, and_false, true_and, and_true, or_true, true_or, false_or, or_false, ↓i_Mo_valueAt3, ↓b_Mo_valueAt3_0, ↓b_Mo_valueAt3_8, ↓b_Mo_valueAt3_54, ↓b_Mo_valueAt3_60, ↓wpL, ↓wpI, Nat.reduceBEq, cond_true, cond_false, lget, lset, lclr, fget, fset, ctake, cdrop, c1, Nat.reduceAdd, ↓o_iadd, ↓o_isub, ↓o_imul, ↓o_iand, ↓o_ior, ↓o_ixor, ↓o_ishl, ↓o_ishr, ↓o_iushr, ↓o_idiv, ↓o_irem, ↓o_ineg, ↓o_ladd, ↓o_lcmp, ↓o_i2l, ↓o_i2c, ↓o_i2d, ↓o_i2f, ↓o_l2f, ↓o_f2d, ↓o_fdiv, ↓o_ddiv, ↓o_dcmp_l, ↓o_dcmp_g, ↓o_fcmp_l, ↓o_fcmp_g, ↓o_push, ↓o_iload, ↓o_fload, ↓o_dload, ↓o_aload, ↓o_istore, ↓o_fstore, ↓o_astore, ↓o_iinc, ↓o_ifeq, ↓o_ifne, ↓o_iflt, ↓o_ifge, ↓o_ifgt, ↓o_ifle, ↓o_iceq, ↓o_icne, ↓o_iclt, ↓o_icge, ↓o_icgt, ↓o_icle, ↓o_goto, ↓o_dup, ↓o_pop, ↓o_dup_x1, ↓o_dup2, ↓o_getf, ↓o_putI, ↓o_putJ, ↓o_putC, ↓o_putR, ↓o_iald, ↓o_zald, ↓o_cald, ↓o_lald, ↓o_dald, ↓o_iast, ↓o_zast, ↓o_cast, ↓o_last, ↓o_dast, ↓o_aald, ↓o_alen, ↓o_throw, ↓o_iret, ↓o_zret, ↓o_cret, ↓o_aret, ↓o_lret, ↓o_fret, ↓o_dret, ↓o_vret, ↓o_new, ↓o_newarr, ↓o_pop1, ↓o_scald, ↓o_salen, ↓o_call, ↓o_callV, ↓o_callX, ↓o_callI, ↓o_call0, ↓o_callR, List.reverse_cons, List.reverse_nil, List.nil_append, List.cons_append, Option.toList_some, Option.toList_none, List.length_cons, List.length_nil, true_and, and_true, true_or, or_true, Nat.reduceLeDiff, Nat.reduceLT, Nat.zero_le, List.append_nil, if_pos, Nat.reduceLeDiff]) | refine ⟨_, rfl, by omega, by omega, ?_⟩ | refine ⟨by (first | exact b2i_01 _ | decide | assumption | (exact or_01 ‹_› (b2i_01 _)) | (simp; done)), ?_⟩)
    | succ m ih =>
      intro h e
      have ih := ih (by omega)
      rw [lkup] at e
      by_cases hc9 : cm 10 0 m = nI r ∧ cm 11 0 m = nI c ∧ cm 13 0 m ≤ mom
      · rw [if_pos hc9] at e
        rw [← e] at hq
        obtain ⟨c1, c2, c3⟩ := hc9
        repeat (first | exact hq _ hM | (refine run _ _ (i_Mo_valueAt3 g) rfl (is_Mo_valueAt3 g) _ _ _ _ _ ?_; simp (disch := omega) only [nI_pred, nI_pos (show m < 2 ^ 31 by omega), c1, c2, Int32.not_lt.mpr c3, ↓hobj_c hM.obj, mf_len, mf_2, mf_6, ↓hAI_c (hM.ar 6 rfl), mf_10, ↓hAI_c (hM.ar 10 rfl), mf_11, ↓hAI_c (hM.ar 11 rfl), mf_12, ↓hAI_c (hM.ar 12 rfl), mf_13, ↓hAI_c (hM.ar 13 rfl), eq_self, nI_dec, ixE, nI_4m, nI_16m, nI_10m, nI_2m, nI_add, nI_1, nI_p2, nI_p3, nI_pred, c3_n, c3_s, c3_i, upd_s, upd_n, rowU_n, rowU_ge, true_imp_iff, false_imp_iff, not_true_eq_false, not_false_eq_true, b2i_t, b2i_f, i32_10, i32_00, i32_11, ite_true_I, false_and, and_false, true_and, and_true, or_true, true_or, false_or, or_false, ↓i_Mo_valueAt3, ↓b_Mo_valueAt3_0, ↓b_Mo_valueAt3_8, ↓b_Mo_valueAt3_54, ↓b_Mo_valueAt3_60, ↓wpL, ↓wpI, Nat.reduceBEq, cond_true, cond_false, lget, lset, lclr, fget, fset, ctake, cdrop, c1, Nat.reduceAdd, ↓o_iadd, ↓o_isub, ↓o_imul, ↓o_iand, ↓o_ior, ↓o_ixor, ↓o_ishl, ↓o_ishr, ↓o_iushr, ↓o_idiv, ↓o_irem, ↓o_ineg, ↓o_ladd, ↓o_lcmp, ↓o_i2l, ↓o_i2c, ↓o_i2d, ↓o_i2f, ↓o_l2f, ↓o_f2d, ↓o_fdiv, ↓o_ddiv, ↓o_dcmp_l, ↓o_dcmp_g, ↓o_fcmp_l, ↓o_fcmp_g, ↓o_push, ↓o_iload, ↓o_fload, ↓o_dload, ↓o_aload, ↓o_istore, ↓o_fstore, ↓o_astore, ↓o_iinc, ↓o_ifeq, ↓o_ifne, ↓o_iflt, ↓o_ifge, ↓o_ifgt, ↓o_ifle, ↓o_iceq, ↓o_icne, ↓o_iclt, ↓o_icge, ↓o_icgt, ↓o_icle, ↓o_goto, ↓o_dup, ↓o_pop, ↓o_dup_x1, ↓o_dup2, ↓o_getf, ↓o_putI, ↓o_putJ, ↓o_putC, ↓o_putR, ↓o_iald, ↓o_zald, ↓o_cald, ↓o_lald, ↓o_dald, ↓o_iast, ↓o_zast, ↓o_cast, ↓o_last, ↓o_dast, ↓o_aald, ↓o_alen, ↓o_throw, ↓o_iret, ↓o_zret, ↓o_cret, ↓o_aret, ↓o_lret, ↓o_fret, ↓o_dret, ↓o_vret, ↓o_new, ↓o_newarr, ↓o_pop1, ↓o_scald, ↓o_salen, ↓o_call, ↓o_callV, ↓o_callX, ↓o_callI, ↓o_call0, ↓o_callR, List.reverse_cons, List.reverse_nil, List.nil_append, List.cons_append, Option.toList_some, Option.toList_none, List.length_cons, List.length_nil, true_and, and_true, true_or, or_true, Nat.reduceLeDiff, Nat.reduceLT, Nat.zero_le, List.append_nil, if_pos, Nat.reduceLeDiff]) | refine ⟨_, rfl, by omega, by omega, ?_⟩ | refine ⟨by (first | exact b2i_01 _ | decide | assumption | (exact or_01 ‹_› (b2i_01 _)) | (simp; done)), ?_⟩)
      · rw [if_neg hc9] at e
        repeat' (first | exact hq _ hM | exact ih e | (exfalso; exact hc9 ⟨‹_›, ‹_›, Int32.not_lt.mp ‹_›⟩) | (refine run _ _ (i_Mo_valueAt3 g) rfl (is_Mo_valueAt3 g) _ _ _ _ _ ?_; simp (disch := omega) only [nI_pred, nI_pos (show m < 2 ^ 31 by omega), ↓hobj_c hM.obj, mf_len, mf_2, mf_6, ↓hAI_c (hM.ar 6 rfl), mf_10, ↓hAI_c (hM.ar 10 rfl), mf_11, ↓hAI_c (hM.ar 11 rfl), mf_12, ↓hAI_c (hM.ar 12 rfl), mf_13, ↓hAI_c (hM.ar 13 rfl), eq_self, nI_dec, ixE, nI_4m, nI_16m, nI_10m, nI_2m, nI_add, nI_1, nI_p2, nI_p3, nI_pred, c3_n, c3_s, c3_i, upd_s, upd_n, rowU_n, rowU_ge, true_imp_iff, false_imp_iff, not_true_eq_false, not_false_eq_true, b2i_t, b2i_f, i32_10, i32_00, i32_11, ite_true_I, false_and, and_false, true_and, and_true, or_true, true_or, false_or, or_false, ↓i_Mo_valueAt3, ↓b_Mo_valueAt3_0, ↓b_Mo_valueAt3_8, ↓b_Mo_valueAt3_54, ↓b_Mo_valueAt3_60, ↓wpL, ↓wpI, Nat.reduceBEq, cond_true, cond_false, lget, lset, lclr, fget, fset, ctake, cdrop, c1, Nat.reduceAdd, ↓o_iadd, ↓o_isub, ↓o_imul, ↓o_iand, ↓o_ior, ↓o_ixor, ↓o_ishl, ↓o_ishr, ↓o_iushr, ↓o_idiv, ↓o_irem, ↓o_ineg, ↓o_ladd, ↓o_lcmp, ↓o_i2l, ↓o_i2c, ↓o_i2d, ↓o_i2f, ↓o_l2f, ↓o_f2d, ↓o_fdiv, ↓o_ddiv, ↓o_dcmp_l, ↓o_dcmp_g, ↓o_fcmp_l, ↓o_fcmp_g, ↓o_push, ↓o_iload, ↓o_fload, ↓o_dload, ↓o_aload, ↓o_istore, ↓o_fstore, ↓o_astore, ↓o_iinc, ↓o_ifeq, ↓o_ifne, ↓o_iflt, ↓o_ifge, ↓o_ifgt, ↓o_ifle, ↓o_iceq, ↓o_icne, ↓o_iclt, ↓o_icge, ↓o_icgt, ↓o_icle, ↓o_goto, ↓o_dup, ↓o_pop, ↓o_dup_x1, ↓o_dup2, ↓o_getf, ↓o_putI, ↓o_putJ, ↓o_putC, ↓o_putR, ↓o_iald, ↓o_zald, ↓o_cald, ↓o_lald, ↓o_dald, ↓o_iast, ↓o_zast, ↓o_cast, ↓o_last, ↓o_dast, ↓o_aald, ↓o_alen, ↓o_throw, ↓o_iret, ↓o_zret, ↓o_cret, ↓o_aret, ↓o_lret, ↓o_fret, ↓o_dret, ↓o_vret, ↓o_new, ↓o_newarr, ↓o_pop1, ↓o_scald, ↓o_salen, ↓o_call, ↓o_callV, ↓o_callX, ↓o_callI, ↓o_call0, ↓o_callR, List.reverse_cons, List.reverse_nil, List.nil_append, List.cons_append, Option.toList_some, Option.toList_none, List.length_cons, List.length_nil, true_and, and_true, true_or, or_true, Nat.reduceLeDiff, Nat.reduceLT, Nat.zero_le, List.append_nil, if_pos, Nat.reduceLeDiff]) | refine ⟨_, rfl, by omega, by omega, ?_⟩ | refine ⟨by (first | exact b2i_01 _ | decide | assumption | (exact or_01 ‹_› (b2i_01 _)) | (simp; done)), ?_⟩ | (refine ⟨fun hcc => ?_, fun hcc => ?_⟩))
  repeat (first | exact hq _ hM | exact loop L (Nat.le_refl _) rfl | (refine run _ _ (i_Mo_valueAt3 g) rfl (is_Mo_valueAt3 g) _ _ _ _ _ ?_; simp (disch := omega) only [hL2, ↓hobj_c hM.obj, mf_len, mf_2, mf_6, ↓hAI_c (hM.ar 6 rfl), mf_10, ↓hAI_c (hM.ar 10 rfl), mf_11, ↓hAI_c (hM.ar 11 rfl), mf_12, ↓hAI_c (hM.ar 12 rfl), mf_13, ↓hAI_c (hM.ar 13 rfl), eq_self, nI_dec, ixE, nI_4m, nI_16m, nI_10m, nI_2m, nI_add, nI_1, nI_p2, nI_p3, nI_pred, c3_n, c3_s, c3_i, upd_s, upd_n, rowU_n, rowU_ge, true_imp_iff, false_imp_iff, not_true_eq_false, not_false_eq_true, b2i_t, b2i_f, i32_10, i32_00, i32_11, ite_true_I, false_and, and_false, true_and, and_true, or_true, true_or, false_or, or_false, ↓i_Mo_valueAt3, ↓b_Mo_valueAt3_0, ↓b_Mo_valueAt3_8, ↓b_Mo_valueAt3_54, ↓b_Mo_valueAt3_60, ↓wpL, ↓wpI, Nat.reduceBEq, cond_true, cond_false, lget, lset, lclr, fget, fset, ctake, cdrop, c1, Nat.reduceAdd, ↓o_iadd, ↓o_isub, ↓o_imul, ↓o_iand, ↓o_ior, ↓o_ixor, ↓o_ishl, ↓o_ishr, ↓o_iushr, ↓o_idiv, ↓o_irem, ↓o_ineg, ↓o_ladd, ↓o_lcmp, ↓o_i2l, ↓o_i2c, ↓o_i2d, ↓o_i2f, ↓o_l2f, ↓o_f2d, ↓o_fdiv, ↓o_ddiv, ↓o_dcmp_l, ↓o_dcmp_g, ↓o_fcmp_l, ↓o_fcmp_g, ↓o_push, ↓o_iload, ↓o_fload, ↓o_dload, ↓o_aload, ↓o_istore, ↓o_fstore, ↓o_astore, ↓o_iinc, ↓o_ifeq, ↓o_ifne, ↓o_iflt, ↓o_ifge, ↓o_ifgt, ↓o_ifle, ↓o_iceq, ↓o_icne, ↓o_iclt, ↓o_icge, ↓o_icgt, ↓o_icle, ↓o_goto, ↓o_dup, ↓o_pop, ↓o_dup_x1, ↓o_dup2, ↓o_getf, ↓o_putI, ↓o_putJ, ↓o_putC, ↓o_putR, ↓o_iald, ↓o_zald, ↓o_cald, ↓o_lald, ↓o_dald, ↓o_iast, ↓o_zast, ↓o_cast, ↓o_last, ↓o_dast, ↓o_aald, ↓o_alen, ↓o_throw, ↓o_iret, ↓o_zret, ↓o_cret, ↓o_aret, ↓o_lret, ↓o_fret, ↓o_dret, ↓o_vret, ↓o_new, ↓o_newarr, ↓o_pop1, ↓o_scald, ↓o_salen, ↓o_call, ↓o_callV, ↓o_callX, ↓o_callI, ↓o_call0, ↓o_callR, List.reverse_cons, List.reverse_nil, List.nil_append, List.cons_append, Option.toList_some, Option.toList_none, List.length_cons, List.length_nil, true_and, and_true, true_or, or_true, Nat.reduceLeDiff, Nat.reduceLT, Nat.zero_le, List.append_nil, if_pos, Nat.reduceLeDiff]) | refine ⟨_, rfl, by omega, by omega, ?_⟩ | refine ⟨by (first | exact b2i_01 _ | decide | assumption | (exact or_01 ‹_› (b2i_01 _)) | (simp; done)), ?_⟩)

def aliveM (cm : CM) (r : Nat) (mom : Int32) : Bool := decide (cm 8 0 r ≤ mom) && (decide (cm 9 0 r = 0) || !decide (cm 9 0 r ≤ mom))
def T_Mo_isAlive : Spec2 := fun as f Q _ => ∃ (f0 : AH) (ad : Nat → Nat) (cm : CM) (cl : CL) (r : Nat) (mom : Int32), as = [.ref (ad 0), .int (nI r), .int mom] ∧ MR f0 f ad cm cl ∧ (r < 160) ∧ ∀ f', MR f0 f' ad (cm) (cl) → Q (some (.int (b2i (aliveM cm r mom)))) f'
theorem i_Mo_isAlive_ {f0 : AH} {ad : Nat → Nat} {cm : CM} {cl : CL} {r : Nat} {mom : Int32} {f : AH} {Q : Option Value → AH → Prop} {X : String → AH → Prop} (hM : MR f0 f ad cm cl) (hp : r < 160) (h : ∀ f', MR f0 f' ad (cm) (cl) → Q (some (.int (b2i (aliveM cm r mom)))) f') : T_Mo_isAlive [.ref (ad 0), .int (nI r), .int mom] f Q X := ⟨f0, ad, cm, cl, r, mom, rfl, hM, hp, h⟩
abbrev m_Mo_isAlive (g : GG) (l : Launch) : MI := (RX9, cX9_isAlive, 3, (some .boolean), [], false, 1, g, l)
def b_Mo_isAlive_0 (g : GG) : Blk := [(1, o_aload 0), (3, o_getf 10 8), (1, o_iload 1), (1, o_iald), (1, o_iload 2), (3, o_icgt 33), (1, o_aload 0), (3, o_getf 10 9), (1, o_iload 1), (1, o_iald), (3, o_ifeq 29), (1, o_aload 0), (3, o_getf 10 9), (1, o_iload 1), (1, o_iald), (1, o_iload 2), (3, o_icle 33)]
def b_Mo_isAlive_29 (g : GG) : Blk := [(1, o_push (.int 1)), (3, o_goto 34)]
def b_Mo_isAlive_33 (g : GG) : Blk := [(1, o_push (.int 0))]
def b_Mo_isAlive_34 (g : GG) : Blk := [(1, o_zret)]
theorem okb_Mo_isAlive_0 (g : GG) (l : Launch) (hst : l.stackTraces = false) : BlkOk (m_Mo_isAlive g l) 0 (b_Mo_isAlive_0 g) := 
  ⟨ok_aload_n (by decide +kernel : decode cX9_isAlive 0 = .ok (.aload_n 0, 1)) rfl,
  ⟨ok_getf cls_10 (Nat.le_of_ble_eq_true rfl) tw_1266 rfl (by decide +kernel : decode cX9_isAlive 1 = .ok (.getfield 16, 3)),
  ⟨ok_iload_n (by decide +kernel : decode cX9_isAlive 4 = .ok (.iload_n 1, 1)) rfl,
  ⟨ok_iald (by decide +kernel : decode cX9_isAlive 5 = .ok (.iaload, 1)),
  ⟨ok_iload_n (by decide +kernel : decode cX9_isAlive 6 = .ok (.iload_n 2, 1)) rfl,
  ⟨ok_icgt (by decide) (by decide +kernel : decode cX9_isAlive 7 = .ok (.if_icmp .gt 26, 3)),
  ⟨ok_aload_n (by decide +kernel : decode cX9_isAlive 10 = .ok (.aload_n 0, 1)) rfl,
  ⟨ok_getf cls_10 (Nat.le_of_ble_eq_true rfl) tw_1267 rfl (by decide +kernel : decode cX9_isAlive 11 = .ok (.getfield 19, 3)),
  ⟨ok_iload_n (by decide +kernel : decode cX9_isAlive 14 = .ok (.iload_n 1, 1)) rfl,
  ⟨ok_iald (by decide +kernel : decode cX9_isAlive 15 = .ok (.iaload, 1)),
  ⟨ok_ifeq (by decide) (by decide +kernel : decode cX9_isAlive 16 = .ok (.ifCond .eq 13, 3)),
  ⟨ok_aload_n (by decide +kernel : decode cX9_isAlive 19 = .ok (.aload_n 0, 1)) rfl,
  ⟨ok_getf cls_10 (Nat.le_of_ble_eq_true rfl) tw_1267 rfl (by decide +kernel : decode cX9_isAlive 20 = .ok (.getfield 19, 3)),
  ⟨ok_iload_n (by decide +kernel : decode cX9_isAlive 23 = .ok (.iload_n 1, 1)) rfl,
  ⟨ok_iald (by decide +kernel : decode cX9_isAlive 24 = .ok (.iaload, 1)),
  ⟨ok_iload_n (by decide +kernel : decode cX9_isAlive 25 = .ok (.iload_n 2, 1)) rfl,
  ⟨ok_icle (by decide) (by decide +kernel : decode cX9_isAlive 26 = .ok (.if_icmp .le 7, 3)), trivial⟩⟩⟩⟩⟩⟩⟩⟩⟩⟩⟩⟩⟩⟩⟩⟩⟩
theorem okb_Mo_isAlive_29 (g : GG) (l : Launch) (hst : l.stackTraces = false) : BlkOk (m_Mo_isAlive g l) 29 (b_Mo_isAlive_29 g) := 
  ⟨ok_iconst (by decide) (by decide +kernel : decode cX9_isAlive 29 = .ok (.iconst 1, 1)),
  ⟨ok_goto (by decide) (by decide +kernel : decode cX9_isAlive 30 = .ok (.goto 4, 3)), trivial⟩⟩
theorem okb_Mo_isAlive_33 (g : GG) (l : Launch) (hst : l.stackTraces = false) : BlkOk (m_Mo_isAlive g l) 33 (b_Mo_isAlive_33 g) := 
  ⟨ok_iconst (by decide) (by decide +kernel : decode cX9_isAlive 33 = .ok (.iconst 0, 1)), trivial⟩
theorem okb_Mo_isAlive_34 (g : GG) (l : Launch) (hst : l.stackTraces = false) : BlkOk (m_Mo_isAlive g l) 34 (b_Mo_isAlive_34 g) := 
  ⟨ok_zret rfl (by decide +kernel : decode cX9_isAlive 34 = .ok (.ireturn, 1)), trivial⟩
def k_Mo_isAlive (g : GG) : List (Nat × Blk) := [(0, b_Mo_isAlive_0 g), (29, b_Mo_isAlive_29 g), (33, b_Mo_isAlive_33 g), (34, b_Mo_isAlive_34 g)]
theorem ok_Mo_isAlive (g : GG) (l : Launch) (hst : l.stackTraces = false) : ∀ b ∈ k_Mo_isAlive g, BlkOk (m_Mo_isAlive g l) b.1 b.2 := List.forall_mem_cons.mpr ⟨okb_Mo_isAlive_0 g l hst, List.forall_mem_cons.mpr ⟨okb_Mo_isAlive_29 g l hst, List.forall_mem_cons.mpr ⟨okb_Mo_isAlive_33 g l hst, List.forall_mem_cons.mpr ⟨okb_Mo_isAlive_34 g l hst, fun _ h => by cases h⟩⟩⟩⟩
def i_Mo_isAlive (g : GG) : List (Nat × Blk) := [(29, b_Mo_isAlive_29 g), (33, b_Mo_isAlive_33 g), (34, b_Mo_isAlive_34 g)]
theorem is_Mo_isAlive (g : GG) : ∀ x ∈ i_Mo_isAlive g, x ∈ k_Mo_isAlive g := sub_at [1, 2, 3] rfl
set_option maxHeartbeats 4000000 in
theorem s_Mo_isAlive (g : GG) (l : Launch) (hst : l.stackTraces = false) : Snd yX9_isAlive (m_Mo_isAlive g l) 0 0 T_Mo_isAlive := by
  refine snd_of (plainFor_of_name (by decide)) rfl (fun h => by first | rfl | cases h) rfl hst (k_Mo_isAlive g) (ok_Mo_isAlive g l hst) ?_
  rintro as f Q X ⟨f0, ad, cm, cl, r, mom, rfl, hM, hp, hq⟩
  refine ⟨[some (.ref (ad 0)), some (.int (nI r)), some (.int mom)], rfl, Nat.le_of_ble_eq_true rfl, fun B run => ?_⟩
  by_cases c1 : cm 8 0 r ≤ mom <;> by_cases c2 : cm 9 0 r = 0 <;> by_cases c3 : cm 9 0 r ≤ mom <;> simp [aliveM, c1, c2, c3, b2i] at hq
  all_goals repeat (first | exact hq _ hM | (refine run _ _ (i_Mo_isAlive g) rfl (is_Mo_isAlive g) _ _ _ _ _ ?_; simp (disch := omega) only [← Int32.not_le, c1, c2, c3, ↓hobj_c hM.obj, mf_len, mf_8, ↓hAI_c (hM.ar 8 rfl), mf_9, ↓hAI_c (hM.ar 9 rfl), eq_self, nI_dec, ixE, nI_4m, nI_16m, nI_10m, nI_2m, nI_add, nI_1, nI_p2, nI_p3, nI_pred, c3_n, c3_s, c3_i, upd_s, upd_n, rowU_n, rowU_ge, true_imp_iff, false_imp_iff, not_true_eq_false, not_false_eq_true, b2i_t, b2i_f, i32_10, i32_00, i32_11, ite_true_I, false_and, and_false, true_and, and_true, or_true, true_or, false_or, or_false, ↓i_Mo_isAlive, ↓b_Mo_isAlive_0, ↓b_Mo_isAlive_29, ↓b_Mo_isAlive_33, ↓b_Mo_isAlive_34, ↓wpL, ↓wpI, Nat.reduceBEq, cond_true, cond_false, lget, lset, lclr, fget, fset, ctake, cdrop, c1, Nat.reduceAdd, ↓o_iadd, ↓o_isub, ↓o_imul, ↓o_iand, ↓o_ior, ↓o_ixor, ↓o_ishl, ↓o_ishr, ↓o_iushr, ↓o_idiv, ↓o_irem, ↓o_ineg, ↓o_ladd, ↓o_lcmp, ↓o_i2l, ↓o_i2c, ↓o_i2d, ↓o_i2f, ↓o_l2f, ↓o_f2d, ↓o_fdiv, ↓o_ddiv, ↓o_dcmp_l, ↓o_dcmp_g, ↓o_fcmp_l, ↓o_fcmp_g, ↓o_push, ↓o_iload, ↓o_fload, ↓o_dload, ↓o_aload, ↓o_istore, ↓o_fstore, ↓o_astore, ↓o_iinc, ↓o_ifeq, ↓o_ifne, ↓o_iflt, ↓o_ifge, ↓o_ifgt, ↓o_ifle, ↓o_iceq, ↓o_icne, ↓o_iclt, ↓o_icge, ↓o_icgt, ↓o_icle, ↓o_goto, ↓o_dup, ↓o_pop, ↓o_dup_x1, ↓o_dup2, ↓o_getf, ↓o_putI, ↓o_putJ, ↓o_putC, ↓o_putR, ↓o_iald, ↓o_zald, ↓o_cald, ↓o_lald, ↓o_dald, ↓o_iast, ↓o_zast, ↓o_cast, ↓o_last, ↓o_dast, ↓o_aald, ↓o_alen, ↓o_throw, ↓o_iret, ↓o_zret, ↓o_cret, ↓o_aret, ↓o_lret, ↓o_fret, ↓o_dret, ↓o_vret, ↓o_new, ↓o_newarr, ↓o_pop1, ↓o_scald, ↓o_salen, ↓o_call, ↓o_callV, ↓o_callX, ↓o_callI, ↓o_call0, ↓o_callR, List.reverse_cons, List.reverse_nil, List.nil_append, List.cons_append, Option.toList_some, Option.toList_none, List.length_cons, List.length_nil, true_and, and_true, true_or, or_true, Nat.reduceLeDiff, Nat.reduceLT, Nat.zero_le, List.append_nil, if_pos, Nat.reduceLeDiff]) | refine ⟨_, rfl, by omega, by omega, ?_⟩ | refine ⟨by (first | exact b2i_01 _ | decide | assumption | (exact or_01 ‹_› (b2i_01 _)) | (simp; done)), ?_⟩)
/-- a write goes into the log -/
def wrC (cm : CM) (r c : Nat) (v : Int32) : CM :=
  c3 (c3 (c3 (c3 (c3 (c3 cm 1 0 0 (cm 1 0 0 + 1)) 10 0 (nn (cm 2 0 0)) (nI r)) 11 0 (nn (cm 2 0 0)) (nI c)) 12 0 (nn (cm 2 0 0)) v) 13 0 (nn (cm 2 0 0)) (cm 1 0 0 + 1)) 2 0 0 (cm 2 0 0 + 1)
def T_Mo_writes : Spec2 := fun as f Q _ => ∃ (f0 : AH) (ad : Nat → Nat) (cm : CM) (cl : CL) (r : Nat) (c : Nat) (v : Int32), as = [.ref (ad 0), .int (nI r), .int (nI c), .int v] ∧ MR f0 f ad cm cl ∧ (Nb (cm 2 0 0) 1099) ∧ ∀ f', MR f0 f' ad (wrC cm r c v) (cl) → Q (none) f'
theorem i_Mo_writes_ {f0 : AH} {ad : Nat → Nat} {cm : CM} {cl : CL} {r : Nat} {c : Nat} {v : Int32} {f : AH} {Q : Option Value → AH → Prop} {X : String → AH → Prop} (hM : MR f0 f ad cm cl) (hp : Nb (cm 2 0 0) 1099) (h : ∀ f', MR f0 f' ad (wrC cm r c v) (cl) → Q (none) f') : T_Mo_writes [.ref (ad 0), .int (nI r), .int (nI c), .int v] f Q X := ⟨f0, ad, cm, cl, r, c, v, rfl, hM, hp, h⟩
abbrev m_Mo_writes (g : GG) (l : Launch) : MI := (RX9, cX9_writes, 4, none, [], false, 1, g, l)
def b_Mo_writes_0 (g : GG) : Blk := [(1, o_aload 0), (1, o_dup), (3, o_getf 10 1), (1, o_push (.int 1)), (1, o_iadd), (3, o_putI 10 1), (1, o_aload 0), (3, o_getf 10 10), (1, o_aload 0), (3, o_getf 10 2), (1, o_iload 1), (1, o_iast), (1, o_aload 0), (3, o_getf 10 11), (1, o_aload 0), (3, o_getf 10 2), (1, o_iload 2), (1, o_iast), (1, o_aload 0), (3, o_getf 10 12), (1, o_aload 0), (3, o_getf 10 2), (1, o_iload 3), (1, o_iast), (1, o_aload 0), (3, o_getf 10 13), (1, o_aload 0), (3, o_getf 10 2), (1, o_aload 0), (3, o_getf 10 1), (1, o_iast), (1, o_aload 0), (1, o_dup), (3, o_getf 10 2), (1, o_push (.int 1)), (1, o_iadd), (3, o_putI 10 2), (1, o_vret)]
theorem okb_Mo_writes_0 (g : GG) (l : Launch) (hst : l.stackTraces = false) : BlkOk (m_Mo_writes g l) 0 (b_Mo_writes_0 g) := 
  ⟨ok_aload_n (by decide +kernel : decode cX9_writes 0 = .ok (.aload_n 0, 1)) rfl,
  ⟨ok_dup (by decide +kernel : decode cX9_writes 1 = .ok (.dup, 1)),
  ⟨ok_getf cls_10 (Nat.le_of_ble_eq_true rfl) tw_1259 rfl (by decide +kernel : decode cX9_writes 2 = .ok (.getfield 156, 3)),
  ⟨ok_iconst (by decide) (by decide +kernel : decode cX9_writes 5 = .ok (.iconst 1, 1)),
  ⟨ok_iadd (by decide +kernel : decode cX9_writes 6 = .ok (.iadd, 1)),
  ⟨ok_putI cls_10 (Nat.le_of_ble_eq_true rfl) tw_1259 rfl rfl rfl (by decide +kernel : decode cX9_writes 7 = .ok (.putfield 156, 3)),
  ⟨ok_aload_n (by decide +kernel : decode cX9_writes 10 = .ok (.aload_n 0, 1)) rfl,
  ⟨ok_getf cls_10 (Nat.le_of_ble_eq_true rfl) tw_1268 rfl (by decide +kernel : decode cX9_writes 11 = .ok (.getfield 22, 3)),
  ⟨ok_aload_n (by decide +kernel : decode cX9_writes 14 = .ok (.aload_n 0, 1)) rfl,
  ⟨ok_getf cls_10 (Nat.le_of_ble_eq_true rfl) tw_1260 rfl (by decide +kernel : decode cX9_writes 15 = .ok (.getfield 153, 3)),
  ⟨ok_iload_n (by decide +kernel : decode cX9_writes 18 = .ok (.iload_n 1, 1)) rfl,
  ⟨ok_iast (by decide +kernel : decode cX9_writes 19 = .ok (.iastore, 1)),
  ⟨ok_aload_n (by decide +kernel : decode cX9_writes 20 = .ok (.aload_n 0, 1)) rfl,
  ⟨ok_getf cls_10 (Nat.le_of_ble_eq_true rfl) tw_1269 rfl (by decide +kernel : decode cX9_writes 21 = .ok (.getfield 25, 3)),
  ⟨ok_aload_n (by decide +kernel : decode cX9_writes 24 = .ok (.aload_n 0, 1)) rfl,
  ⟨ok_getf cls_10 (Nat.le_of_ble_eq_true rfl) tw_1260 rfl (by decide +kernel : decode cX9_writes 25 = .ok (.getfield 153, 3)),
  ⟨ok_iload_n (by decide +kernel : decode cX9_writes 28 = .ok (.iload_n 2, 1)) rfl,
  ⟨ok_iast (by decide +kernel : decode cX9_writes 29 = .ok (.iastore, 1)),
  ⟨ok_aload_n (by decide +kernel : decode cX9_writes 30 = .ok (.aload_n 0, 1)) rfl,
  ⟨ok_getf cls_10 (Nat.le_of_ble_eq_true rfl) tw_1270 rfl (by decide +kernel : decode cX9_writes 31 = .ok (.getfield 28, 3)),
  ⟨ok_aload_n (by decide +kernel : decode cX9_writes 34 = .ok (.aload_n 0, 1)) rfl,
  ⟨ok_getf cls_10 (Nat.le_of_ble_eq_true rfl) tw_1260 rfl (by decide +kernel : decode cX9_writes 35 = .ok (.getfield 153, 3)),
  ⟨ok_iload_n (by decide +kernel : decode cX9_writes 38 = .ok (.iload_n 3, 1)) rfl,
  ⟨ok_iast (by decide +kernel : decode cX9_writes 39 = .ok (.iastore, 1)),
  ⟨ok_aload_n (by decide +kernel : decode cX9_writes 40 = .ok (.aload_n 0, 1)) rfl,
  ⟨ok_getf cls_10 (Nat.le_of_ble_eq_true rfl) tw_1271 rfl (by decide +kernel : decode cX9_writes 41 = .ok (.getfield 31, 3)),
  ⟨ok_aload_n (by decide +kernel : decode cX9_writes 44 = .ok (.aload_n 0, 1)) rfl,
  ⟨ok_getf cls_10 (Nat.le_of_ble_eq_true rfl) tw_1260 rfl (by decide +kernel : decode cX9_writes 45 = .ok (.getfield 153, 3)),
  ⟨ok_aload_n (by decide +kernel : decode cX9_writes 48 = .ok (.aload_n 0, 1)) rfl,
  ⟨ok_getf cls_10 (Nat.le_of_ble_eq_true rfl) tw_1259 rfl (by decide +kernel : decode cX9_writes 49 = .ok (.getfield 156, 3)),
  ⟨ok_iast (by decide +kernel : decode cX9_writes 52 = .ok (.iastore, 1)),
  ⟨ok_aload_n (by decide +kernel : decode cX9_writes 53 = .ok (.aload_n 0, 1)) rfl,
  ⟨ok_dup (by decide +kernel : decode cX9_writes 54 = .ok (.dup, 1)),
  ⟨ok_getf cls_10 (Nat.le_of_ble_eq_true rfl) tw_1260 rfl (by decide +kernel : decode cX9_writes 55 = .ok (.getfield 153, 3)),
  ⟨ok_iconst (by decide) (by decide +kernel : decode cX9_writes 58 = .ok (.iconst 1, 1)),
  ⟨ok_iadd (by decide +kernel : decode cX9_writes 59 = .ok (.iadd, 1)),
  ⟨ok_putI cls_10 (Nat.le_of_ble_eq_true rfl) tw_1260 rfl rfl rfl (by decide +kernel : decode cX9_writes 60 = .ok (.putfield 153, 3)),
  ⟨ok_vret rfl (by decide +kernel : decode cX9_writes 63 = .ok (.return_, 1)), trivial⟩⟩⟩⟩⟩⟩⟩⟩⟩⟩⟩⟩⟩⟩⟩⟩⟩⟩⟩⟩⟩⟩⟩⟩⟩⟩⟩⟩⟩⟩⟩⟩⟩⟩⟩⟩⟩⟩
def k_Mo_writes (g : GG) : List (Nat × Blk) := [(0, b_Mo_writes_0 g)]
theorem ok_Mo_writes (g : GG) (l : Launch) (hst : l.stackTraces = false) : ∀ b ∈ k_Mo_writes g, BlkOk (m_Mo_writes g l) b.1 b.2 := List.forall_mem_cons.mpr ⟨okb_Mo_writes_0 g l hst, fun _ h => by cases h⟩
def i_Mo_writes (g : GG) : List (Nat × Blk) := []
theorem is_Mo_writes (g : GG) : ∀ x ∈ i_Mo_writes g, x ∈ k_Mo_writes g := sub_at [] rfl
set_option maxHeartbeats 4000000 in
theorem s_Mo_writes (g : GG) (l : Launch) (hst : l.stackTraces = false) : Snd yX9_writes (m_Mo_writes g l) 0 0 T_Mo_writes := by
  refine snd_of (plainFor_of_name (by decide)) rfl (fun h => by first | rfl | cases h) rfl hst (k_Mo_writes g) (ok_Mo_writes g l hst) ?_
  rintro as f Q X ⟨f0, ad, cm, cl, r, c, v, rfl, hM, hp, hq⟩
  refine ⟨[some (.ref (ad 0)), some (.int (nI r)), some (.int (nI c)), some (.int v)], rfl, Nat.le_of_ble_eq_true rfl, fun B run => ?_⟩
  obtain ⟨L, hL, hL2⟩ := hp
  rw [wrC, hL2, nn_nI (by omega), nI_1] at hq
  repeat (first | exact hq _ hM | (refine run _ _ (i_Mo_writes g) rfl (is_Mo_writes g) _ _ _ _ _ ?_; simp (disch := omega) only [hL2, ↓hobj_c hM.obj, mf_len, mf_1, mf_2, mf_10, ↓hAI_c (hM.ar 10 rfl), mf_11, ↓hAI_c (hM.ar 11 rfl), mf_12, ↓hAI_c (hM.ar 12 rfl), mf_13, ↓hAI_c (hM.ar 13 rfl), eq_self, nI_dec, ixE, nI_4m, nI_16m, nI_10m, nI_2m, nI_add, nI_1, nI_p2, nI_p3, nI_pred, c3_n, c3_s, c3_i, upd_s, upd_n, rowU_n, rowU_ge, true_imp_iff, false_imp_iff, not_true_eq_false, not_false_eq_true, b2i_t, b2i_f, i32_10, i32_00, i32_11, ite_true_I, false_and, and_false, true_and, and_true, or_true, true_or, false_or, or_false, ↓i_Mo_writes, ↓b_Mo_writes_0, ↓wpL, ↓wpI, Nat.reduceBEq, cond_true, cond_false, lget, lset, lclr, fget, fset, ctake, cdrop, c1, Nat.reduceAdd, ↓o_iadd, ↓o_isub, ↓o_imul, ↓o_iand, ↓o_ior, ↓o_ixor, ↓o_ishl, ↓o_ishr, ↓o_iushr, ↓o_idiv, ↓o_irem, ↓o_ineg, ↓o_ladd, ↓o_lcmp, ↓o_i2l, ↓o_i2c, ↓o_i2d, ↓o_i2f, ↓o_l2f, ↓o_f2d, ↓o_fdiv, ↓o_ddiv, ↓o_dcmp_l, ↓o_dcmp_g, ↓o_fcmp_l, ↓o_fcmp_g, ↓o_push, ↓o_iload, ↓o_fload, ↓o_dload, ↓o_aload, ↓o_istore, ↓o_fstore, ↓o_astore, ↓o_iinc, ↓o_ifeq, ↓o_ifne, ↓o_iflt, ↓o_ifge, ↓o_ifgt, ↓o_ifle, ↓o_iceq, ↓o_icne, ↓o_iclt, ↓o_icge, ↓o_icgt, ↓o_icle, ↓o_goto, ↓o_dup, ↓o_pop, ↓o_dup_x1, ↓o_dup2, ↓o_getf, ↓o_putI, ↓o_putJ, ↓o_putC, ↓o_putR, ↓o_iald, ↓o_zald, ↓o_cald, ↓o_lald, ↓o_dald, ↓o_iast, ↓o_zast, ↓o_cast, ↓o_last, ↓o_dast, ↓o_aald, ↓o_alen, ↓o_throw, ↓o_iret, ↓o_zret, ↓o_cret, ↓o_aret, ↓o_lret, ↓o_fret, ↓o_dret, ↓o_vret, ↓o_new, ↓o_newarr, ↓o_pop1, ↓o_scald, ↓o_salen, ↓o_call, ↓o_callV, ↓o_callX, ↓o_callI, ↓o_call0, ↓o_callR, List.reverse_cons, List.reverse_nil, List.nil_append, List.cons_append, Option.toList_some, Option.toList_none, List.length_cons, List.length_nil, true_and, and_true, true_or, or_true, Nat.reduceLeDiff, Nat.reduceLT, Nat.zero_le, List.append_nil, if_pos, Nat.reduceLeDiff]) | refine ⟨_, rfl, by omega, by omega, ?_⟩ | refine ⟨by (first | exact b2i_01 _ | decide | assumption | (exact or_01 ‹_› (b2i_01 _)) | (simp; done)), ?_⟩ | (intro f e; (first | (have hM := hM.q1 e; clear e) | (have hM := hM.q2 e; clear e) | (have hM := hM.qa 10 rfl e; clear e) | (have hM := hM.qa 11 rfl e; clear e) | (have hM := hM.qa 12 rfl e; clear e) | (have hM := hM.qa 13 rfl e; clear e)); try simp (disch := omega) only [hL2, ↓hobj_c hM.obj, mf_len, mf_1, mf_2, mf_10, ↓hAI_c (hM.ar 10 rfl), mf_11, ↓hAI_c (hM.ar 11 rfl), mf_12, ↓hAI_c (hM.ar 12 rfl), mf_13, ↓hAI_c (hM.ar 13 rfl), eq_self, nI_dec, ixE, nI_4m, nI_16m, nI_10m, nI_2m, nI_add, nI_1, nI_p2, nI_p3, nI_pred, c3_n, c3_s, c3_i, upd_s, upd_n, rowU_n, rowU_ge, true_imp_iff, false_imp_iff, not_true_eq_false, not_false_eq_true, b2i_t, b2i_f, i32_10, i32_00, i32_11, ite_true_I, false_and, and_false, true_and, and_true, or_true, true_or, false_or, or_false, ↓wpL, ↓wpI, Nat.reduceBEq, cond_true, cond_false, lget, lset, lclr, fget, fset, ctake, cdrop, c1, Nat.reduceAdd, ↓o_iadd, ↓o_isub, ↓o_imul, ↓o_iand, ↓o_ior, ↓o_ixor, ↓o_ishl, ↓o_ishr, ↓o_iushr, ↓o_idiv, ↓o_irem, ↓o_ineg, ↓o_ladd, ↓o_lcmp, ↓o_i2l, ↓o_i2c, ↓o_i2d, ↓o_i2f, ↓o_l2f, ↓o_f2d, ↓o_fdiv, ↓o_ddiv, ↓o_dcmp_l, ↓o_dcmp_g, ↓o_fcmp_l, ↓o_fcmp_g, ↓o_push, ↓o_iload, ↓o_fload, ↓o_dload, ↓o_aload, ↓o_istore, ↓o_fstore, ↓o_astore, ↓o_iinc, ↓o_ifeq, ↓o_ifne, ↓o_iflt, ↓o_ifge, ↓o_ifgt, ↓o_ifle, ↓o_iceq, ↓o_icne, ↓o_iclt, ↓o_icge, ↓o_icgt, ↓o_icle, ↓o_goto, ↓o_dup, ↓o_pop, ↓o_dup_x1, ↓o_dup2, ↓o_getf, ↓o_putI, ↓o_putJ, ↓o_putC, ↓o_putR, ↓o_iald, ↓o_zald, ↓o_cald, ↓o_lald, ↓o_dald, ↓o_iast, ↓o_zast, ↓o_cast, ↓o_last, ↓o_dast, ↓o_aald, ↓o_alen, ↓o_throw, ↓o_iret, ↓o_zret, ↓o_cret, ↓o_aret, ↓o_lret, ↓o_fret, ↓o_dret, ↓o_vret, ↓o_new, ↓o_newarr, ↓o_pop1, ↓o_scald, ↓o_salen, ↓o_call, ↓o_callV, ↓o_callX, ↓o_callI, ↓o_call0, ↓o_callR, List.reverse_cons, List.reverse_nil, List.nil_append, List.cons_append, Option.toList_some, Option.toList_none, List.length_cons, List.length_nil, true_and, and_true, true_or, or_true, Nat.reduceLeDiff, Nat.reduceLT, Nat.zero_le, List.append_nil, if_pos, Nat.reduceLeDiff]))
/-- .. and the bounds take it in -/
def wdC (cm : CM) (r c : Nat) (v : Int32) : CM :=
  if v = 5000 then c3 cm 18 0 (4 * (r / 16) + c) 1 else
  c3 (c3 (c3 cm 14 0 (4 * (r / 16) + c) (if cm 17 0 (4 * (r / 16) + c) = 0 then v else imin (cm 14 0 (4 * (r / 16) + c)) v)) 15 0 (4 * (r / 16) + c) (if cm 17 0 (4 * (r / 16) + c) = 0 then v else imax (cm 15 0 (4 * (r / 16) + c)) v)) 17 0 (4 * (r / 16) + c) 1
def T_Mo_widens : Spec2 := fun as f Q _ => ∃ (f0 : AH) (ad : Nat → Nat) (cm : CM) (cl : CL) (r : Nat) (c : Nat) (v : Int32), as = [.ref (ad 0), .int (nI r), .int (nI c), .int v] ∧ MR f0 f ad cm cl ∧ (r < 160 ∧ c < 4) ∧ ∀ f', MR f0 f' ad (wdC cm r c v) (cl) → Q (none) f'
theorem i_Mo_widens_ {f0 : AH} {ad : Nat → Nat} {cm : CM} {cl : CL} {r : Nat} {c : Nat} {v : Int32} {f : AH} {Q : Option Value → AH → Prop} {X : String → AH → Prop} (hM : MR f0 f ad cm cl) (hp : r < 160 ∧ c < 4) (h : ∀ f', MR f0 f' ad (wdC cm r c v) (cl) → Q (none) f') : T_Mo_widens [.ref (ad 0), .int (nI r), .int (nI c), .int v] f Q X := ⟨f0, ad, cm, cl, r, c, v, rfl, hM, hp, h⟩
abbrev m_Mo_widens (g : GG) (l : Launch) : MI := (RX9, cX9_widens, 5, none, [], false, 2, g, l)
def b_Mo_widens_0 (g : GG) : Blk := [(1, o_push (.int 4)), (1, o_iload 1), (2, o_push (.int 16)), (1, o_idiv), (1, o_imul), (1, o_iload 2), (1, o_iadd), (2, o_istore 4), (1, o_iload 3), (3, o_push (.int 5000)), (3, o_icne 26), (1, o_aload 0), (3, o_getf 10 18), (2, o_iload 4), (1, o_push (.int 1)), (1, o_zast), (1, o_vret)]
def b_Mo_widens_26 (g : GG) : Blk := [(1, o_aload 0), (3, o_getf 10 14), (2, o_iload 4), (1, o_aload 0), (3, o_getf 10 17), (2, o_iload 4), (1, o_zald), (3, o_ifeq 56), (1, o_aload 0), (3, o_getf 10 14), (2, o_iload 4), (1, o_iald), (1, o_iload 3), (3, o_call0 T_Ma_min 2)]
def b_Mo_widens_53 (g : GG) : Blk := [(3, o_goto 57)]
def b_Mo_widens_56 (g : GG) : Blk := [(1, o_iload 3)]
def b_Mo_widens_57 (g : GG) : Blk := [(1, o_iast), (1, o_aload 0), (3, o_getf 10 15), (2, o_iload 4), (1, o_aload 0), (3, o_getf 10 17), (2, o_iload 4), (1, o_zald), (3, o_ifeq 88), (1, o_aload 0), (3, o_getf 10 15), (2, o_iload 4), (1, o_iald), (1, o_iload 3), (3, o_call0 T_Ma_max 2)]
def b_Mo_widens_85 (g : GG) : Blk := [(3, o_goto 89)]
def b_Mo_widens_88 (g : GG) : Blk := [(1, o_iload 3)]
def b_Mo_widens_89 (g : GG) : Blk := [(1, o_iast), (1, o_aload 0), (3, o_getf 10 17), (2, o_iload 4), (1, o_push (.int 1)), (1, o_zast), (1, o_vret)]
theorem okb_Mo_widens_0 (g : GG) (l : Launch) (hst : l.stackTraces = false) : BlkOk (m_Mo_widens g l) 0 (b_Mo_widens_0 g) := 
  ⟨ok_iconst (by decide) (by decide +kernel : decode cX9_widens 0 = .ok (.iconst 4, 1)),
  ⟨ok_iload_n (by decide +kernel : decode cX9_widens 1 = .ok (.iload_n 1, 1)) rfl,
  ⟨ok_bipush (by decide) (by decide +kernel : decode cX9_widens 2 = .ok (.bipush 16, 2)),
  ⟨ok_idiv (by decide +kernel : decode cX9_widens 4 = .ok (.idiv, 1)),
  ⟨ok_imul (by decide +kernel : decode cX9_widens 5 = .ok (.imul, 1)),
  ⟨ok_iload_n (by decide +kernel : decode cX9_widens 6 = .ok (.iload_n 2, 1)) rfl,
  ⟨ok_iadd (by decide +kernel : decode cX9_widens 7 = .ok (.iadd, 1)),
  ⟨ok_istore (Nat.le_of_ble_eq_true rfl) (by decide +kernel : decode cX9_widens 8 = .ok (.istore 4, 2)),
  ⟨ok_iload_n (by decide +kernel : decode cX9_widens 10 = .ok (.iload_n 3, 1)) rfl,
  ⟨ok_sipush (by decide) (by decide +kernel : decode cX9_widens 11 = .ok (.sipush 5000, 3)),
  ⟨ok_icne (by decide) (by decide +kernel : decode cX9_widens 14 = .ok (.if_icmp .ne 12, 3)),
  ⟨ok_aload_n (by decide +kernel : decode cX9_widens 17 = .ok (.aload_n 0, 1)) rfl,
  ⟨ok_getf cls_10 (Nat.le_of_ble_eq_true rfl) tw_1276 rfl (by decide +kernel : decode cX9_widens 18 = .ok (.getfield 47, 3)),
  ⟨ok_iload (by decide +kernel : decode cX9_widens 21 = .ok (.iload 4, 2)),
  ⟨ok_iconst (by decide) (by decide +kernel : decode cX9_widens 23 = .ok (.iconst 1, 1)),
  ⟨ok_zast (by decide +kernel : decode cX9_widens 24 = .ok (.bastore, 1)),
  ⟨ok_vret rfl (by decide +kernel : decode cX9_widens 25 = .ok (.return_, 1)), trivial⟩⟩⟩⟩⟩⟩⟩⟩⟩⟩⟩⟩⟩⟩⟩⟩⟩
theorem okb_Mo_widens_26 (g : GG) (l : Launch) (hst : l.stackTraces = false) : BlkOk (m_Mo_widens g l) 26 (b_Mo_widens_26 g) := 
  ⟨ok_aload_n (by decide +kernel : decode cX9_widens 26 = .ok (.aload_n 0, 1)) rfl,
  ⟨ok_getf cls_10 (Nat.le_of_ble_eq_true rfl) tw_1272 rfl (by decide +kernel : decode cX9_widens 27 = .ok (.getfield 34, 3)),
  ⟨ok_iload (by decide +kernel : decode cX9_widens 30 = .ok (.iload 4, 2)),
  ⟨ok_aload_n (by decide +kernel : decode cX9_widens 32 = .ok (.aload_n 0, 1)) rfl,
  ⟨ok_getf cls_10 (Nat.le_of_ble_eq_true rfl) tw_1275 rfl (by decide +kernel : decode cX9_widens 33 = .ok (.getfield 43, 3)),
  ⟨ok_iload (by decide +kernel : decode cX9_widens 36 = .ok (.iload 4, 2)),
  ⟨ok_zald (by decide +kernel : decode cX9_widens 38 = .ok (.baload, 1)),
  ⟨ok_ifeq (by decide) (by decide +kernel : decode cX9_widens 39 = .ok (.ifCond .eq 17, 3)),
  ⟨ok_aload_n (by decide +kernel : decode cX9_widens 42 = .ok (.aload_n 0, 1)) rfl,
  ⟨ok_getf cls_10 (Nat.le_of_ble_eq_true rfl) tw_1272 rfl (by decide +kernel : decode cX9_widens 43 = .ok (.getfield 34, 3)),
  ⟨ok_iload (by decide +kernel : decode cX9_widens 46 = .ok (.iload 4, 2)),
  ⟨ok_iald (by decide +kernel : decode cX9_widens 48 = .ok (.iaload, 1)),
  ⟨ok_iload_n (by decide +kernel : decode cX9_widens 49 = .ok (.iload_n 3, 1)) rfl,
  ⟨(ok_callS (k := 2) (s_Ma_min g l hst) (Nat.le_of_ble_eq_true rfl) (Nat.le_of_ble_eq_true rfl) rfl rfl tw_1436 tw_298 tw_15 tw_299 ⟨by decide, by decide, by decide⟩ (by decide +kernel : decode cX9_widens 50 = .ok (.invokestatic 159, 3))).mono call0_of, trivial⟩⟩⟩⟩⟩⟩⟩⟩⟩⟩⟩⟩⟩⟩
theorem okb_Mo_widens_53 (g : GG) (l : Launch) (hst : l.stackTraces = false) : BlkOk (m_Mo_widens g l) 53 (b_Mo_widens_53 g) := 
  ⟨ok_goto (by decide) (by decide +kernel : decode cX9_widens 53 = .ok (.goto 4, 3)), trivial⟩
theorem okb_Mo_widens_56 (g : GG) (l : Launch) (hst : l.stackTraces = false) : BlkOk (m_Mo_widens g l) 56 (b_Mo_widens_56 g) := 
  ⟨ok_iload_n (by decide +kernel : decode cX9_widens 56 = .ok (.iload_n 3, 1)) rfl, trivial⟩
theorem okb_Mo_widens_57 (g : GG) (l : Launch) (hst : l.stackTraces = false) : BlkOk (m_Mo_widens g l) 57 (b_Mo_widens_57 g) := 
  ⟨ok_iast (by decide +kernel : decode cX9_widens 57 = .ok (.iastore, 1)),
  ⟨ok_aload_n (by decide +kernel : decode cX9_widens 58 = .ok (.aload_n 0, 1)) rfl,
  ⟨ok_getf cls_10 (Nat.le_of_ble_eq_true rfl) tw_1273 rfl (by decide +kernel : decode cX9_widens 59 = .ok (.getfield 37, 3)),
  ⟨ok_iload (by decide +kernel : decode cX9_widens 62 = .ok (.iload 4, 2)),
  ⟨ok_aload_n (by decide +kernel : decode cX9_widens 64 = .ok (.aload_n 0, 1)) rfl,
  ⟨ok_getf cls_10 (Nat.le_of_ble_eq_true rfl) tw_1275 rfl (by decide +kernel : decode cX9_widens 65 = .ok (.getfield 43, 3)),
  ⟨ok_iload (by decide +kernel : decode cX9_widens 68 = .ok (.iload 4, 2)),
  ⟨ok_zald (by decide +kernel : decode cX9_widens 70 = .ok (.baload, 1)),
  ⟨ok_ifeq (by decide) (by decide +kernel : decode cX9_widens 71 = .ok (.ifCond .eq 17, 3)),
  ⟨ok_aload_n (by decide +kernel : decode cX9_widens 74 = .ok (.aload_n 0, 1)) rfl,
  ⟨ok_getf cls_10 (Nat.le_of_ble_eq_true rfl) tw_1273 rfl (by decide +kernel : decode cX9_widens 75 = .ok (.getfield 37, 3)),
  ⟨ok_iload (by decide +kernel : decode cX9_widens 78 = .ok (.iload 4, 2)),
  ⟨ok_iald (by decide +kernel : decode cX9_widens 80 = .ok (.iaload, 1)),
  ⟨ok_iload_n (by decide +kernel : decode cX9_widens 81 = .ok (.iload_n 3, 1)) rfl,
  ⟨(ok_callS (k := 2) (s_Ma_max g l hst) (Nat.le_of_ble_eq_true rfl) (Nat.le_of_ble_eq_true rfl) rfl rfl tw_1437 tw_301 tw_15 tw_302 ⟨by decide, by decide, by decide⟩ (by decide +kernel : decode cX9_widens 82 = .ok (.invokestatic 165, 3))).mono call0_of, trivial⟩⟩⟩⟩⟩⟩⟩⟩⟩⟩⟩⟩⟩⟩⟩
theorem okb_Mo_widens_85 (g : GG) (l : Launch) (hst : l.stackTraces = false) : BlkOk (m_Mo_widens g l) 85 (b_Mo_widens_85 g) := 
  ⟨ok_goto (by decide) (by decide +kernel : decode cX9_widens 85 = .ok (.goto 4, 3)), trivial⟩
theorem okb_Mo_widens_88 (g : GG) (l : Launch) (hst : l.stackTraces = false) : BlkOk (m_Mo_widens g l) 88 (b_Mo_widens_88 g) := 
  ⟨ok_iload_n (by decide +kernel : decode cX9_widens 88 = .ok (.iload_n 3, 1)) rfl, trivial⟩
theorem okb_Mo_widens_89 (g : GG) (l : Launch) (hst : l.stackTraces = false) : BlkOk (m_Mo_widens g l) 89 (b_Mo_widens_89 g) := 
  ⟨ok_iast (by decide +kernel : decode cX9_widens 89 = .ok (.iastore, 1)),
  ⟨ok_aload_n (by decide +kernel : decode cX9_widens 90 = .ok (.aload_n 0, 1)) rfl,
  ⟨ok_getf cls_10 (Nat.le_of_ble_eq_true rfl) tw_1275 rfl (by decide +kernel : decode cX9_widens 91 = .ok (.getfield 43, 3)),
  ⟨ok_iload (by decide +kernel : decode cX9_widens 94 = .ok (.iload 4, 2)),
  ⟨ok_iconst (by decide) (by decide +kernel : decode cX9_widens 96 = .ok (.iconst 1, 1)),
  ⟨ok_zast (by decide +kernel : decode cX9_widens 97 = .ok (.bastore, 1)),
  ⟨ok_vret rfl (by decide +kernel : decode cX9_widens 98 = .ok (.return_, 1)), trivial⟩⟩⟩⟩⟩⟩⟩
def k_Mo_widens (g : GG) : List (Nat × Blk) := [(0, b_Mo_widens_0 g), (26, b_Mo_widens_26 g), (53, b_Mo_widens_53 g), (56, b_Mo_widens_56 g), (57, b_Mo_widens_57 g), (85, b_Mo_widens_85 g), (88, b_Mo_widens_88 g), (89, b_Mo_widens_89 g)]
theorem ok_Mo_widens (g : GG) (l : Launch) (hst : l.stackTraces = false) : ∀ b ∈ k_Mo_widens g, BlkOk (m_Mo_widens g l) b.1 b.2 := List.forall_mem_cons.mpr ⟨okb_Mo_widens_0 g l hst, List.forall_mem_cons.mpr ⟨okb_Mo_widens_26 g l hst, List.forall_mem_cons.mpr ⟨okb_Mo_widens_53 g l hst, List.forall_mem_cons.mpr ⟨okb_Mo_widens_56 g l hst, List.forall_mem_cons.mpr ⟨okb_Mo_widens_57 g l hst, List.forall_mem_cons.mpr ⟨okb_Mo_widens_85 g l hst, List.forall_mem_cons.mpr ⟨okb_Mo_widens_88 g l hst, List.forall_mem_cons.mpr ⟨okb_Mo_widens_89 g l hst, fun _ h => by cases h⟩⟩⟩⟩⟩⟩⟩⟩
def i_Mo_widens (g : GG) : List (Nat × Blk) := [(26, b_Mo_widens_26 g), (56, b_Mo_widens_56 g), (57, b_Mo_widens_57 g), (88, b_Mo_widens_88 g), (89, b_Mo_widens_89 g)]
theorem is_Mo_widens (g : GG) : ∀ x ∈ i_Mo_widens g, x ∈ k_Mo_widens g := sub_at [1, 3, 4, 6, 7] rfl
set_option maxHeartbeats 4000000 in
theorem s_Mo_widens (g : GG) (l : Launch) (hst : l.stackTraces = false) : Snd yX9_widens (m_Mo_widens g l) 0 0 T_Mo_widens := by
  refine snd_of (plainFor_of_name (by decide)) rfl (fun h => by first | rfl | cases h) rfl hst (k_Mo_widens g) (ok_Mo_widens g l hst) ?_
  rintro as f Q X ⟨f0, ad, cm, cl, r, c, v, rfl, hM, hp, hq⟩
  refine ⟨[some (.ref (ad 0)), some (.int (nI r)), some (.int (nI c)), some (.int v), none], rfl, Nat.le_of_ble_eq_true rfl, fun B run => ?_⟩
  obtain ⟨hr, hc⟩ := hp
  by_cases c1 : v = 5000
  · rw [wdC, if_pos c1] at hq
    repeat (first | exact hq _ hM | refine i_Ma_min_ ?_ | refine i_Ma_max_ ?_ | (refine run _ _ (i_Mo_widens g) rfl (is_Mo_widens g) _ _ _ _ _ ?_; simp (disch := omega) only [nI_d16, c1, ↓hobj_c hM.obj, mf_len, mf_14, ↓hAI_c (hM.ar 14 rfl), mf_15, ↓hAI_c (hM.ar 15 rfl), mf_17, ↓hAI_c (hM.ar 17 rfl), mf_18, ↓hAI_c (hM.ar 18 rfl), eq_self, nI_dec, ixE, nI_4m, nI_16m, nI_10m, nI_2m, nI_add, nI_1, nI_p2, nI_p3, nI_pred, c3_n, c3_s, c3_i, upd_s, upd_n, rowU_n, rowU_ge, true_imp_iff, false_imp_iff, not_true_eq_false, not_false_eq_true, b2i_t, b2i_f, i32_10, i32_00, i32_11, ite_true_I, false_and, and_false, true_and, and_true, or_true, true_or, false_or, or_false, ↓i_Mo_widens, ↓b_Mo_widens_0, ↓b_Mo_widens_26, ↓b_Mo_widens_53, ↓b_Mo_widens_56, ↓b_Mo_widens_57, ↓b_Mo_widens_85, ↓b_Mo_widens_88, ↓b_Mo_widens_89, ↓wpL, ↓wpI, Nat.reduceBEq, cond_true, cond_false, lget, lset, lclr, fget, fset, ctake, cdrop, c1, Nat.reduceAdd, ↓o_iadd, ↓o_isub, ↓o_imul, ↓o_iand, ↓o_ior, ↓o_ixor, ↓o_ishl, ↓o_ishr, ↓o_iushr, ↓o_idiv, ↓o_irem, ↓o_ineg, ↓o_ladd, ↓o_lcmp, ↓o_i2l, ↓o_i2c, ↓o_i2d, ↓o_i2f, ↓o_l2f, ↓o_f2d, ↓o_fdiv, ↓o_ddiv, ↓o_dcmp_l, ↓o_dcmp_g, ↓o_fcmp_l, ↓o_fcmp_g, ↓o_push, ↓o_iload, ↓o_fload, ↓o_dload, ↓o_aload, ↓o_istore, ↓o_fstore, ↓o_astore, ↓o_iinc, ↓o_ifeq, ↓o_ifne, ↓o_iflt, ↓o_ifge, ↓o_ifgt, ↓o_ifle, ↓o_iceq, ↓o_icne, ↓o_iclt, ↓o_icge, ↓o_icgt, ↓o_icle, ↓o_goto, ↓o_dup, ↓o_pop, ↓o_dup_x1, ↓o_dup2, ↓o_getf, ↓o_putI, ↓o_putJ, ↓o_putC, ↓o_putR, ↓o_iald, ↓o_zald, ↓o_cald, ↓o_lald, ↓o_dald, ↓o_iast, ↓o_zast, ↓o_cast, ↓o_last, ↓o_dast, ↓o_aald, ↓o_alen, ↓o_throw, ↓o_iret, ↓o_zret, ↓o_cret, ↓o_aret, ↓o_lret, ↓o_fret, ↓o_dret, ↓o_vret, ↓o_new, ↓o_newarr, ↓o_pop1, ↓o_scald, ↓o_salen, ↓o_call, ↓o_callV, ↓o_callX, ↓o_callI, ↓o_call0, ↓o_callR, List.reverse_cons, List.reverse_nil, List.nil_append, List.cons_append, Option.toList_some, Option.toList_none, List.length_cons, List.length_nil, true_and, and_true, true_or, or_true, Nat.reduceLeDiff, Nat.reduceLT, Nat.zero_le, List.append_nil, if_pos, Nat.reduceLeDiff]) | refine ⟨_, rfl, by omega, by omega, ?_⟩ | refine ⟨by (first | exact b2i_01 _ | decide | assumption | (exact or_01 ‹_› (b2i_01 _)) | (simp; done)), ?_⟩ | (intro f e; (first | (have hM := hM.qa 14 rfl e; clear e) | (have hM := hM.qa 15 rfl e; clear e) | (have hM := hM.qa 17 rfl e; clear e) | (have hM := hM.qa 18 rfl e; clear e)); try simp (disch := omega) only [nI_d16, c1, ↓hobj_c hM.obj, mf_len, mf_14, ↓hAI_c (hM.ar 14 rfl), mf_15, ↓hAI_c (hM.ar 15 rfl), mf_17, ↓hAI_c (hM.ar 17 rfl), mf_18, ↓hAI_c (hM.ar 18 rfl), eq_self, nI_dec, ixE, nI_4m, nI_16m, nI_10m, nI_2m, nI_add, nI_1, nI_p2, nI_p3, nI_pred, c3_n, c3_s, c3_i, upd_s, upd_n, rowU_n, rowU_ge, true_imp_iff, false_imp_iff, not_true_eq_false, not_false_eq_true, b2i_t, b2i_f, i32_10, i32_00, i32_11, ite_true_I, false_and, and_false, true_and, and_true, or_true, true_or, false_or, or_false, ↓wpL, ↓wpI, Nat.reduceBEq, cond_true, cond_false, lget, lset, lclr, fget, fset, ctake, cdrop, c1, Nat.reduceAdd, ↓o_iadd, ↓o_isub, ↓o_imul, ↓o_iand, ↓o_ior, ↓o_ixor, ↓o_ishl, ↓o_ishr, ↓o_iushr, ↓o_idiv, ↓o_irem, ↓o_ineg, ↓o_ladd, ↓o_lcmp, ↓o_i2l, ↓o_i2c, ↓o_i2d, ↓o_i2f, ↓o_l2f, ↓o_f2d, ↓o_fdiv, ↓o_ddiv, ↓o_dcmp_l, ↓o_dcmp_g, ↓o_fcmp_l, ↓o_fcmp_g, ↓o_push, ↓o_iload, ↓o_fload, ↓o_dload, ↓o_aload, ↓o_istore, ↓o_fstore, ↓o_astore, ↓o_iinc, ↓o_ifeq, ↓o_ifne, ↓o_iflt, ↓o_ifge, ↓o_ifgt, ↓o_ifle, ↓o_iceq, ↓o_icne, ↓o_iclt, ↓o_icge, ↓o_icgt, ↓o_icle, ↓o_goto, ↓o_dup, ↓o_pop, ↓o_dup_x1, ↓o_dup2, ↓o_getf, ↓o_putI, ↓o_putJ, ↓o_putC, ↓o_putR, ↓o_iald, ↓o_zald, ↓o_cald, ↓o_lald, ↓o_dald, ↓o_iast, ↓o_zast, ↓o_cast, ↓o_last, ↓o_dast, ↓o_aald, ↓o_alen, ↓o_throw, ↓o_iret, ↓o_zret, ↓o_cret, ↓o_aret, ↓o_lret, ↓o_fret, ↓o_dret, ↓o_vret, ↓o_new, ↓o_newarr, ↓o_pop1, ↓o_scald, ↓o_salen, ↓o_call, ↓o_callV, ↓o_callX, ↓o_callI, ↓o_call0, ↓o_callR, List.reverse_cons, List.reverse_nil, List.nil_append, List.cons_append, Option.toList_some, Option.toList_none, List.length_cons, List.length_nil, true_and, and_true, true_or, or_true, Nat.reduceLeDiff, Nat.reduceLT, Nat.zero_le, List.append_nil, if_pos, Nat.reduceLeDiff]))
  · rw [wdC, if_neg c1] at hq
    by_cases c2 : cm 17 0 (4 * (r / 16) + c) = 0
    · rw [if_pos c2, if_pos c2] at hq
      repeat (first | exact hq _ hM | refine i_Ma_min_ ?_ | refine i_Ma_max_ ?_ | (refine run _ _ (i_Mo_widens g) rfl (is_Mo_widens g) _ _ _ _ _ ?_; simp (disch := omega) only [nI_d16, c1, c2, ↓hobj_c hM.obj, mf_len, mf_14, ↓hAI_c (hM.ar 14 rfl), mf_15, ↓hAI_c (hM.ar 15 rfl), mf_17, ↓hAI_c (hM.ar 17 rfl), mf_18, ↓hAI_c (hM.ar 18 rfl), eq_self, nI_dec, ixE, nI_4m, nI_16m, nI_10m, nI_2m, nI_add, nI_1, nI_p2, nI_p3, nI_pred, c3_n, c3_s, c3_i, upd_s, upd_n, rowU_n, rowU_ge, true_imp_iff, false_imp_iff, not_true_eq_false, not_false_eq_true, b2i_t, b2i_f, i32_10, i32_00, i32_11, ite_true_I, false_and, and_false, true_and, and_true, or_true, true_or, false_or, or_false, ↓i_Mo_widens, ↓b_Mo_widens_0, ↓b_Mo_widens_26, ↓b_Mo_widens_53, ↓b_Mo_widens_56, ↓b_Mo_widens_57, ↓b_Mo_widens_85, ↓b_Mo_widens_88, ↓b_Mo_widens_89, ↓wpL, ↓wpI, Nat.reduceBEq, cond_true, cond_false, lget, lset, lclr, fget, fset, ctake, cdrop, c1, Nat.reduceAdd, ↓o_iadd, ↓o_isub, ↓o_imul, ↓o_iand, ↓o_ior, ↓o_ixor, ↓o_ishl, ↓o_ishr, ↓o_iushr, ↓o_idiv, ↓o_irem, ↓o_ineg, ↓o_ladd, ↓o_lcmp, ↓o_i2l, ↓o_i2c, ↓o_i2d, ↓o_i2f, ↓o_l2f, ↓o_f2d, ↓o_fdiv, ↓o_ddiv, ↓o_dcmp_l, ↓o_dcmp_g, ↓o_fcmp_l, ↓o_fcmp_g, ↓o_push, ↓o_iload, ↓o_fload, ↓o_dload, ↓o_aload, ↓o_istore, ↓o_fstore, ↓o_astore, ↓o_iinc, ↓o_ifeq, ↓o_ifne, ↓o_iflt, ↓o_ifge, ↓o_ifgt, ↓o_ifle, ↓o_iceq, ↓o_icne, ↓o_iclt, ↓o_icge, ↓o_icgt, ↓o_icle, ↓o_goto, ↓o_dup, ↓o_pop, ↓o_dup_x1, ↓o_dup2, ↓o_getf, ↓o_putI, ↓o_putJ, ↓o_putC, ↓o_putR, ↓o_iald, ↓o_zald, ↓o_cald, ↓o_lald, ↓o_dald, ↓o_iast, ↓o_zast, ↓o_cast, ↓o_last, ↓o_dast, ↓o_aald, ↓o_alen, ↓o_throw, ↓o_iret, ↓o_zret, ↓o_cret, ↓o_aret, ↓o_lret, ↓o_fret, ↓o_dret, ↓o_vret, ↓o_new, ↓o_newarr, ↓o_pop1, ↓o_scald, ↓o_salen, ↓o_call, ↓o_callV, ↓o_callX, ↓o_callI, ↓o_call0, ↓o_callR, List.reverse_cons, List.reverse_nil, List.nil_append, List.cons_append, Option.toList_some, Option.toList_none, List.length_cons, List.length_nil, true_and, and_true, true_or, or_true, Nat.reduceLeDiff, Nat.reduceLT, Nat.zero_le, List.append_nil, if_pos, Nat.reduceLeDiff]) | refine ⟨_, rfl, by omega, by omega, ?_⟩ | refine ⟨by (first | exact b2i_01 _ | decide | assumption | (exact or_01 ‹_› (b2i_01 _)) | (simp; done)), ?_⟩ | (intro f e; (first | (have hM := hM.qa 14 rfl e; clear e) | (have hM := hM.qa 15 rfl e; clear e) | (have hM := hM.qa 17 rfl e; clear e) | (have hM := hM.qa 18 rfl e; clear e)); try simp (disch := omega) only [nI_d16, c1, c2, ↓hobj_c hM.obj, mf_len, mf_14, ↓hAI_c (hM.ar 14 rfl), mf_15, ↓hAI_c (hM.ar 15 rfl), mf_17, ↓hAI_c (hM.ar 17 rfl), mf_18, ↓hAI_c (hM.ar 18 rfl), eq_self, nI_dec, ixE, nI_4m, nI_16m, nI_10m, nI_2m, nI_add, nI_1, nI_p2, nI_p3, nI_pred, c3_n, c3_s, c3_i, upd_s, upd_n, rowU_n, rowU_ge, true_imp_iff, false_imp_iff, not_true_eq_false, not_false_eq_true, b2i_t, b2i_f, i32_10, i32_00, i32_11, ite_true_I, false_and, and_false, true_and, and_true, or_true, true_or, false_or, or_false, ↓wpL, ↓wpI, Nat.reduceBEq, cond_true, cond_false, lget, lset, lclr, fget, fset, ctake, cdrop, c1, Nat.reduceAdd, ↓o_iadd, ↓o_isub, ↓o_imul, ↓o_iand, ↓o_ior, ↓o_ixor, ↓o_ishl, ↓o_ishr, ↓o_iushr, ↓o_idiv, ↓o_irem, ↓o_ineg, ↓o_ladd, ↓o_lcmp, ↓o_i2l, ↓o_i2c, ↓o_i2d, ↓o_i2f, ↓o_l2f, ↓o_f2d, ↓o_fdiv, ↓o_ddiv, ↓o_dcmp_l, ↓o_dcmp_g, ↓o_fcmp_l, ↓o_fcmp_g, ↓o_push, ↓o_iload, ↓o_fload, ↓o_dload, ↓o_aload, ↓o_istore, ↓o_fstore, ↓o_astore, ↓o_iinc, ↓o_ifeq, ↓o_ifne, ↓o_iflt, ↓o_ifge, ↓o_ifgt, ↓o_ifle, ↓o_iceq, ↓o_icne, ↓o_iclt, ↓o_icge, ↓o_icgt, ↓o_icle, ↓o_goto, ↓o_dup, ↓o_pop, ↓o_dup_x1, ↓o_dup2, ↓o_getf, ↓o_putI, ↓o_putJ, ↓o_putC, ↓o_putR, ↓o_iald, ↓o_zald, ↓o_cald, ↓o_lald, ↓o_dald, ↓o_iast, ↓o_zast, ↓o_cast, ↓o_last, ↓o_dast, ↓o_aald, ↓o_alen, ↓o_throw, ↓o_iret, ↓o_zret, ↓o_cret, ↓o_aret, ↓o_lret, ↓o_fret, ↓o_dret, ↓o_vret, ↓o_new, ↓o_newarr, ↓o_pop1, ↓o_scald, ↓o_salen, ↓o_call, ↓o_callV, ↓o_callX, ↓o_callI, ↓o_call0, ↓o_callR, List.reverse_cons, List.reverse_nil, List.nil_append, List.cons_append, Option.toList_some, Option.toList_none, List.length_cons, List.length_nil, true_and, and_true, true_or, or_true, Nat.reduceLeDiff, Nat.reduceLT, Nat.zero_le, List.append_nil, if_pos, Nat.reduceLeDiff]))
    · rw [if_neg c2, if_neg c2] at hq
      repeat (first | exact hq _ hM | refine i_Ma_min_ ?_ | refine i_Ma_max_ ?_ | (refine run _ _ (i_Mo_widens g) rfl (is_Mo_widens g) _ _ _ _ _ ?_; simp (disch := omega) only [nI_d16, c1, c2, ↓hobj_c hM.obj, mf_len, mf_14, ↓hAI_c (hM.ar 14 rfl), mf_15, ↓hAI_c (hM.ar 15 rfl), mf_17, ↓hAI_c (hM.ar 17 rfl), mf_18, ↓hAI_c (hM.ar 18 rfl), eq_self, nI_dec, ixE, nI_4m, nI_16m, nI_10m, nI_2m, nI_add, nI_1, nI_p2, nI_p3, nI_pred, c3_n, c3_s, c3_i, upd_s, upd_n, rowU_n, rowU_ge, true_imp_iff, false_imp_iff, not_true_eq_false, not_false_eq_true, b2i_t, b2i_f, i32_10, i32_00, i32_11, ite_true_I, false_and, and_false, true_and, and_true, or_true, true_or, false_or, or_false, ↓i_Mo_widens, ↓b_Mo_widens_0, ↓b_Mo_widens_26, ↓b_Mo_widens_53, ↓b_Mo_widens_56, ↓b_Mo_widens_57, ↓b_Mo_widens_85, ↓b_Mo_widens_88, ↓b_Mo_widens_89, ↓wpL, ↓wpI, Nat.reduceBEq, cond_true, cond_false, lget, lset, lclr, fget, fset, ctake, cdrop, c1, Nat.reduceAdd, ↓o_iadd, ↓o_isub, ↓o_imul, ↓o_iand, ↓o_ior, ↓o_ixor, ↓o_ishl, ↓o_ishr, ↓o_iushr, ↓o_idiv, ↓o_irem, ↓o_ineg, ↓o_ladd, ↓o_lcmp, ↓o_i2l, ↓o_i2c, ↓o_i2d, ↓o_i2f, ↓o_l2f, ↓o_f2d, ↓o_fdiv, ↓o_ddiv, ↓o_dcmp_l, ↓o_dcmp_g, ↓o_fcmp_l, ↓o_fcmp_g, ↓o_push, ↓o_iload, ↓o_fload, ↓o_dload, ↓o_aload, ↓o_istore, ↓o_fstore, ↓o_astore, ↓o_iinc, ↓o_ifeq, ↓o_ifne, ↓o_iflt, ↓o_ifge, ↓o_ifgt, ↓o_ifle, ↓o_iceq, ↓o_icne, ↓o_iclt, ↓o_icge, ↓o_icgt, ↓o_icle, ↓o_goto, ↓o_dup, ↓o_pop, ↓o_dup_x1, ↓o_dup2, ↓o_getf, ↓o_putI, ↓o_putJ, ↓o_putC, ↓o_putR, ↓o_iald, ↓o_zald, ↓o_cald, ↓o_lald, ↓o_dald, ↓o_iast, ↓o_zast, ↓o_cast, ↓o_last, ↓o_dast, ↓o_aald, ↓o_alen, ↓o_throw, ↓o_iret, ↓o_zret, ↓o_cret, ↓o_aret, ↓o_lret, ↓o_fret, ↓o_dret, ↓o_vret, ↓o_new, ↓o_newarr, ↓o_pop1, ↓o_scald, ↓o_salen, ↓o_call, ↓o_callV, ↓o_callX, ↓o_callI, ↓o_call0, ↓o_callR, List.reverse_cons, List.reverse_nil, List.nil_append, List.cons_append, Option.toList_some, Option.toList_none, List.length_cons, List.length_nil, true_and, and_true, true_or, or_true, Nat.reduceLeDiff, Nat.reduceLT, Nat.zero_le, List.append_nil, if_pos, Nat.reduceLeDiff]) | refine ⟨_, rfl, by omega, by omega, ?_⟩ | refine ⟨by (first | exact b2i_01 _ | decide | assumption | (exact or_01 ‹_› (b2i_01 _)) | (simp; done)), ?_⟩ | (intro f e; (first | (have hM := hM.qa 14 rfl e; clear e) | (have hM := hM.qa 15 rfl e; clear e) | (have hM := hM.qa 17 rfl e; clear e) | (have hM := hM.qa 18 rfl e; clear e)); try simp (disch := omega) only [nI_d16, c1, c2, ↓hobj_c hM.obj, mf_len, mf_14, ↓hAI_c (hM.ar 14 rfl), mf_15, ↓hAI_c (hM.ar 15 rfl), mf_17, ↓hAI_c (hM.ar 17 rfl), mf_18, ↓hAI_c (hM.ar 18 rfl), eq_self, nI_dec, ixE, nI_4m, nI_16m, nI_10m, nI_2m, nI_add, nI_1, nI_p2, nI_p3, nI_pred, c3_n, c3_s, c3_i, upd_s, upd_n, rowU_n, rowU_ge, true_imp_iff, false_imp_iff, not_true_eq_false, not_false_eq_true, b2i_t, b2i_f, i32_10, i32_00, i32_11, ite_true_I, false_and, and_false, true_and, and_true, or_true, true_or, false_or, or_false, ↓wpL, ↓wpI, Nat.reduceBEq, cond_true, cond_false, lget, lset, lclr, fget, fset, ctake, cdrop, c1, Nat.reduceAdd, ↓o_iadd, ↓o_isub, ↓o_imul, ↓o_iand, ↓o_ior, ↓o_ixor, ↓o_ishl, ↓o_ishr, ↓o_iushr, ↓o_idiv, ↓o_irem, ↓o_ineg, ↓o_ladd, ↓o_lcmp, ↓o_i2l, ↓o_i2c, ↓o_i2d, ↓o_i2f, ↓o_l2f, ↓o_f2d, ↓o_fdiv, ↓o_ddiv, ↓o_dcmp_l, ↓o_dcmp_g, ↓o_fcmp_l, ↓o_fcmp_g, ↓o_push, ↓o_iload, ↓o_fload, ↓o_dload, ↓o_aload, ↓o_istore, ↓o_fstore, ↓o_astore, ↓o_iinc, ↓o_ifeq, ↓o_ifne, ↓o_iflt, ↓o_ifge, ↓o_ifgt, ↓o_ifle, ↓o_iceq, ↓o_icne, ↓o_iclt, ↓o_icge, ↓o_icgt, ↓o_icle, ↓o_goto, ↓o_dup, ↓o_pop, ↓o_dup_x1, ↓o_dup2, ↓o_getf, ↓o_putI, ↓o_putJ, ↓o_putC, ↓o_putR, ↓o_iald, ↓o_zald, ↓o_cald, ↓o_lald, ↓o_dald, ↓o_iast, ↓o_zast, ↓o_cast, ↓o_last, ↓o_dast, ↓o_aald, ↓o_alen, ↓o_throw, ↓o_iret, ↓o_zret, ↓o_cret, ↓o_aret, ↓o_lret, ↓o_fret, ↓o_dret, ↓o_vret, ↓o_new, ↓o_newarr, ↓o_pop1, ↓o_scald, ↓o_salen, ↓o_call, ↓o_callV, ↓o_callX, ↓o_callI, ↓o_call0, ↓o_callR, List.reverse_cons, List.reverse_nil, List.nil_append, List.cons_append, Option.toList_some, Option.toList_none, List.length_cons, List.length_nil, true_and, and_true, true_or, or_true, Nat.reduceLeDiff, Nat.reduceLT, Nat.zero_le, List.append_nil, if_pos, Nat.reduceLeDiff]))
def isJ (k : Int32) : Bool := decide (k = 97) || decide (k = 111) || decide (k = 110)
/-- whether a filter compares a column -/
def about (cm : CM) (col : Int32) : Nat → Nat → Bool
  | 0, _ => false
  | d + 1, f => if isJ (cm 19 0 f) then about cm col d (nn (cm 20 0 f)) || (!decide (cm 19 0 f = 110) && about cm col d (nn (cm 21 0 f))) else decide (cm 20 0 f = col)
theorem about_cg {cm cm' : CM} (h1 : cm' 19 = cm 19) (h2 : cm' 20 = cm 20) (h3 : cm' 21 = cm 21) (col : Int32) : ∀ d f, about cm' col d f = about cm col d f
  | 0, _ => rfl
  | d + 1, f => by simp only [about, h1, h2, h3, about_cg h1 h2 h3 col d]
/-- the filters are made of those ahead of them -/
def FOk (cm : CM) : Prop := Nb (cm 3 0 0) 30 ∧ ∀ f, f < nn (cm 3 0 0) → (isJ (cm 19 0 f) = true → (∃ a, a < f ∧ cm 20 0 f = nI a) ∧ (¬ cm 19 0 f = 110 → ∃ b, b < f ∧ cm 21 0 f = nI b)) ∧ (isJ (cm 19 0 f) = false → ∃ c, c < 4 ∧ cm 20 0 f = nI c)
theorem FOk.lt {cm : CM} (h : FOk cm) {j : Nat} (hj : j < nn (cm 3 0 0)) : j < 30 := by
  obtain ⟨⟨n, hn, e⟩, -⟩ := h
  rw [e, nn_nI (by omega)] at hj
  omega
def T_Mo_isAbout (d : Nat) : Spec2 := fun as f Q _ => ∃ (f0 : AH) (ad : Nat → Nat) (cm : CM) (cl : CL) (j : Nat) (col : Int32), as = [.ref (ad 0), .int (nI j), .int col] ∧ MR f0 f ad cm cl ∧ (j < d ∧ j < nn (cm 3 0 0) ∧ FOk cm) ∧ ∀ f', MR f0 f' ad (cm) (cl) → Q (some (.int (b2i (about cm col d j)))) f'
theorem i_Mo_isAbout_ {d : Nat} {f0 : AH} {ad : Nat → Nat} {cm : CM} {cl : CL} {j : Nat} {col : Int32} {f : AH} {Q : Option Value → AH → Prop} {X : String → AH → Prop} (hM : MR f0 f ad cm cl) (hp : j < d ∧ j < nn (cm 3 0 0) ∧ FOk cm) (h : ∀ f', MR f0 f' ad (cm) (cl) → Q (some (.int (b2i (about cm col d j)))) f') : T_Mo_isAbout d [.ref (ad 0), .int (nI j), .int col] f Q X := ⟨f0, ad, cm, cl, j, col, rfl, hM, hp, h⟩
abbrev m_Mo_isAbout (d : Nat) (g : GG) (l : Launch) : MI := (RX9, cX9_isAbout, 3, (some .boolean), [], false, 1 + d, g, l)
def b_Mo_isAbout_0 (d : Nat) (g : GG) : Blk := [(1, o_aload 0), (3, o_getf 10 19), (1, o_iload 1), (1, o_cald), (2, o_push (.int 97)), (3, o_iceq 33), (1, o_aload 0), (3, o_getf 10 19), (1, o_iload 1), (1, o_cald), (2, o_push (.int 111)), (3, o_iceq 33), (1, o_aload 0), (3, o_getf 10 19), (1, o_iload 1), (1, o_cald), (2, o_push (.int 110)), (3, o_icne 78)]
def b_Mo_isAbout_33 (d : Nat) (g : GG) : Blk := [(1, o_aload 0), (1, o_aload 0), (3, o_getf 10 20), (1, o_iload 1), (1, o_iald), (1, o_iload 2), (3, o_callR (o_call0 (T_Mo_isAbout d) 3) 10 3)]
def b_Mo_isAbout_44 (d : Nat) (g : GG) : Blk := [(3, o_ifne 72), (1, o_aload 0), (3, o_getf 10 19), (1, o_iload 1), (1, o_cald), (2, o_push (.int 110)), (3, o_iceq 76), (1, o_aload 0), (1, o_aload 0), (3, o_getf 10 21), (1, o_iload 1), (1, o_iald), (1, o_iload 2), (3, o_callR (o_call0 (T_Mo_isAbout d) 3) 10 3)]
def b_Mo_isAbout_69 (d : Nat) (g : GG) : Blk := [(3, o_ifeq 76)]
def b_Mo_isAbout_72 (d : Nat) (g : GG) : Blk := [(1, o_push (.int 1)), (3, o_goto 77)]
def b_Mo_isAbout_76 (d : Nat) (g : GG) : Blk := [(1, o_push (.int 0))]
def b_Mo_isAbout_77 (d : Nat) (g : GG) : Blk := [(1, o_zret)]
def b_Mo_isAbout_78 (d : Nat) (g : GG) : Blk := [(1, o_aload 0), (3, o_getf 10 20), (1, o_iload 1), (1, o_iald), (1, o_iload 2), (3, o_icne 92), (1, o_push (.int 1)), (3, o_goto 93)]
def b_Mo_isAbout_92 (d : Nat) (g : GG) : Blk := [(1, o_push (.int 0))]
def b_Mo_isAbout_93 (d : Nat) (g : GG) : Blk := [(1, o_zret)]
theorem okb_Mo_isAbout_0 (d : Nat) (g : GG) (l : Launch) (hst : l.stackTraces = false) (ih : Snd yX9_isAbout (m_Mo_isAbout d g l) 0 0 (T_Mo_isAbout d)) : BlkOk (m_Mo_isAbout (d + 1) g l) 0 (b_Mo_isAbout_0 d g) := 
  ⟨ok_aload_n (by decide +kernel : decode cX9_isAbout 0 = .ok (.aload_n 0, 1)) rfl,
  ⟨ok_getf cls_10 (Nat.le_of_ble_eq_true rfl) tw_1277 rfl (by decide +kernel : decode cX9_isAbout 1 = .ok (.getfield 50, 3)),
  ⟨ok_iload_n (by decide +kernel : decode cX9_isAbout 4 = .ok (.iload_n 1, 1)) rfl,
  ⟨ok_cald (by decide +kernel : decode cX9_isAbout 5 = .ok (.caload, 1)),
  ⟨ok_bipush (by decide) (by decide +kernel : decode cX9_isAbout 6 = .ok (.bipush 97, 2)),
  ⟨ok_iceq (by decide) (by decide +kernel : decode cX9_isAbout 8 = .ok (.if_icmp .eq 25, 3)),
  ⟨ok_aload_n (by decide +kernel : decode cX9_isAbout 11 = .ok (.aload_n 0, 1)) rfl,
  ⟨ok_getf cls_10 (Nat.le_of_ble_eq_true rfl) tw_1277 rfl (by decide +kernel : decode cX9_isAbout 12 = .ok (.getfield 50, 3)),
  ⟨ok_iload_n (by decide +kernel : decode cX9_isAbout 15 = .ok (.iload_n 1, 1)) rfl,
  ⟨ok_cald (by decide +kernel : decode cX9_isAbout 16 = .ok (.caload, 1)),
  ⟨ok_bipush (by decide) (by decide +kernel : decode cX9_isAbout 17 = .ok (.bipush 111, 2)),
  ⟨ok_iceq (by decide) (by decide +kernel : decode cX9_isAbout 19 = .ok (.if_icmp .eq 14, 3)),
  ⟨ok_aload_n (by decide +kernel : decode cX9_isAbout 22 = .ok (.aload_n 0, 1)) rfl,
  ⟨ok_getf cls_10 (Nat.le_of_ble_eq_true rfl) tw_1277 rfl (by decide +kernel : decode cX9_isAbout 23 = .ok (.getfield 50, 3)),
  ⟨ok_iload_n (by decide +kernel : decode cX9_isAbout 26 = .ok (.iload_n 1, 1)) rfl,
  ⟨ok_cald (by decide +kernel : decode cX9_isAbout 27 = .ok (.caload, 1)),
  ⟨ok_bipush (by decide) (by decide +kernel : decode cX9_isAbout 28 = .ok (.bipush 110, 2)),
  ⟨ok_icne (by decide) (by decide +kernel : decode cX9_isAbout 30 = .ok (.if_icmp .ne 48, 3)), trivial⟩⟩⟩⟩⟩⟩⟩⟩⟩⟩⟩⟩⟩⟩⟩⟩⟩⟩
theorem okb_Mo_isAbout_33 (d : Nat) (g : GG) (l : Launch) (hst : l.stackTraces = false) (ih : Snd yX9_isAbout (m_Mo_isAbout d g l) 0 0 (T_Mo_isAbout d)) : BlkOk (m_Mo_isAbout (d + 1) g l) 33 (b_Mo_isAbout_33 d g) := 
  ⟨ok_aload_n (by decide +kernel : decode cX9_isAbout 33 = .ok (.aload_n 0, 1)) rfl,
  ⟨ok_aload_n (by decide +kernel : decode cX9_isAbout 34 = .ok (.aload_n 0, 1)) rfl,
  ⟨ok_getf cls_10 (Nat.le_of_ble_eq_true rfl) tw_1278 rfl (by decide +kernel : decode cX9_isAbout 35 = .ok (.getfield 54, 3)),
  ⟨ok_iload_n (by decide +kernel : decode cX9_isAbout 38 = .ok (.iload_n 1, 1)) rfl,
  ⟨ok_iald (by decide +kernel : decode cX9_isAbout 39 = .ok (.iaload, 1)),
  ⟨ok_iload_n (by decide +kernel : decode cX9_isAbout 40 = .ok (.iload_n 2, 1)) rfl,
  ⟨(ok_callV (k := 2) cls_10 ih (Nat.lt_succ_self _) (Nat.le_of_ble_eq_true rfl) rfl rfl tw_1442 tw_1444 ts_46 tw_9 tw_1445 ⟨by decide, by decide, by decide⟩ (by decide +kernel : decode cX9_isAbout 41 = .ok (.invokevirtual 259, 3))).mono callR0_of, trivial⟩⟩⟩⟩⟩⟩⟩
theorem okb_Mo_isAbout_44 (d : Nat) (g : GG) (l : Launch) (hst : l.stackTraces = false) (ih : Snd yX9_isAbout (m_Mo_isAbout d g l) 0 0 (T_Mo_isAbout d)) : BlkOk (m_Mo_isAbout (d + 1) g l) 44 (b_Mo_isAbout_44 d g) := 
  ⟨ok_ifne (by decide) (by decide +kernel : decode cX9_isAbout 44 = .ok (.ifCond .ne 28, 3)),
  ⟨ok_aload_n (by decide +kernel : decode cX9_isAbout 47 = .ok (.aload_n 0, 1)) rfl,
  ⟨ok_getf cls_10 (Nat.le_of_ble_eq_true rfl) tw_1277 rfl (by decide +kernel : decode cX9_isAbout 48 = .ok (.getfield 50, 3)),
  ⟨ok_iload_n (by decide +kernel : decode cX9_isAbout 51 = .ok (.iload_n 1, 1)) rfl,
  ⟨ok_cald (by decide +kernel : decode cX9_isAbout 52 = .ok (.caload, 1)),
  ⟨ok_bipush (by decide) (by decide +kernel : decode cX9_isAbout 53 = .ok (.bipush 110, 2)),
  ⟨ok_iceq (by decide) (by decide +kernel : decode cX9_isAbout 55 = .ok (.if_icmp .eq 21, 3)),
  ⟨ok_aload_n (by decide +kernel : decode cX9_isAbout 58 = .ok (.aload_n 0, 1)) rfl,
  ⟨ok_aload_n (by decide +kernel : decode cX9_isAbout 59 = .ok (.aload_n 0, 1)) rfl,
  ⟨ok_getf cls_10 (Nat.le_of_ble_eq_true rfl) tw_1279 rfl (by decide +kernel : decode cX9_isAbout 60 = .ok (.getfield 57, 3)),
  ⟨ok_iload_n (by decide +kernel : decode cX9_isAbout 63 = .ok (.iload_n 1, 1)) rfl,
  ⟨ok_iald (by decide +kernel : decode cX9_isAbout 64 = .ok (.iaload, 1)),
  ⟨ok_iload_n (by decide +kernel : decode cX9_isAbout 65 = .ok (.iload_n 2, 1)) rfl,
  ⟨(ok_callV (k := 2) cls_10 ih (Nat.lt_succ_self _) (Nat.le_of_ble_eq_true rfl) rfl rfl tw_1442 tw_1444 ts_46 tw_9 tw_1445 ⟨by decide, by decide, by decide⟩ (by decide +kernel : decode cX9_isAbout 66 = .ok (.invokevirtual 259, 3))).mono callR0_of, trivial⟩⟩⟩⟩⟩⟩⟩⟩⟩⟩⟩⟩⟩⟩
theorem okb_Mo_isAbout_69 (d : Nat) (g : GG) (l : Launch) (hst : l.stackTraces = false) (ih : Snd yX9_isAbout (m_Mo_isAbout d g l) 0 0 (T_Mo_isAbout d)) : BlkOk (m_Mo_isAbout (d + 1) g l) 69 (b_Mo_isAbout_69 d g) := 
  ⟨ok_ifeq (by decide) (by decide +kernel : decode cX9_isAbout 69 = .ok (.ifCond .eq 7, 3)), trivial⟩
theorem okb_Mo_isAbout_72 (d : Nat) (g : GG) (l : Launch) (hst : l.stackTraces = false) (ih : Snd yX9_isAbout (m_Mo_isAbout d g l) 0 0 (T_Mo_isAbout d)) : BlkOk (m_Mo_isAbout (d + 1) g l) 72 (b_Mo_isAbout_72 d g) := 
  ⟨ok_iconst (by decide) (by decide +kernel : decode cX9_isAbout 72 = .ok (.iconst 1, 1)),
  ⟨ok_goto (by decide) (by decide +kernel : decode cX9_isAbout 73 = .ok (.goto 4, 3)), trivial⟩⟩
theorem okb_Mo_isAbout_76 (d : Nat) (g : GG) (l : Launch) (hst : l.stackTraces = false) (ih : Snd yX9_isAbout (m_Mo_isAbout d g l) 0 0 (T_Mo_isAbout d)) : BlkOk (m_Mo_isAbout (d + 1) g l) 76 (b_Mo_isAbout_76 d g) := 
  ⟨ok_iconst (by decide) (by decide +kernel : decode cX9_isAbout 76 = .ok (.iconst 0, 1)), trivial⟩
theorem okb_Mo_isAbout_77 (d : Nat) (g : GG) (l : Launch) (hst : l.stackTraces = false) (ih : Snd yX9_isAbout (m_Mo_isAbout d g l) 0 0 (T_Mo_isAbout d)) : BlkOk (m_Mo_isAbout (d + 1) g l) 77 (b_Mo_isAbout_77 d g) := 
  ⟨ok_zret rfl (by decide +kernel : decode cX9_isAbout 77 = .ok (.ireturn, 1)), trivial⟩
theorem okb_Mo_isAbout_78 (d : Nat) (g : GG) (l : Launch) (hst : l.stackTraces = false) (ih : Snd yX9_isAbout (m_Mo_isAbout d g l) 0 0 (T_Mo_isAbout d)) : BlkOk (m_Mo_isAbout (d + 1) g l) 78 (b_Mo_isAbout_78 d g) := 
  ⟨ok_aload_n (by decide +kernel : decode cX9_isAbout 78 = .ok (.aload_n 0, 1)) rfl,
  ⟨ok_getf cls_10 (Nat.le_of_ble_eq_true rfl) tw_1278 rfl (by decide +kernel : decode cX9_isAbout 79 = .ok (.getfield 54, 3)),
  ⟨ok_iload_n (by decide +kernel : decode cX9_isAbout 82 = .ok (.iload_n 1, 1)) rfl,
  ⟨ok_iald (by decide +kernel : decode cX9_isAbout 83 = .ok (.iaload, 1)),
  ⟨ok_iload_n (by decide +kernel : decode cX9_isAbout 84 = .ok (.iload_n 2, 1)) rfl,
  ⟨ok_icne (by decide) (by decide +kernel : decode cX9_isAbout 85 = .ok (.if_icmp .ne 7, 3)),
  ⟨ok_iconst (by decide) (by decide +kernel : decode cX9_isAbout 88 = .ok (.iconst 1, 1)),
  ⟨ok_goto (by decide) (by decide +kernel : decode cX9_isAbout 89 = .ok (.goto 4, 3)), trivial⟩⟩⟩⟩⟩⟩⟩⟩
theorem okb_Mo_isAbout_92 (d : Nat) (g : GG) (l : Launch) (hst : l.stackTraces = false) (ih : Snd yX9_isAbout (m_Mo_isAbout d g l) 0 0 (T_Mo_isAbout d)) : BlkOk (m_Mo_isAbout (d + 1) g l) 92 (b_Mo_isAbout_92 d g) := 
  ⟨ok_iconst (by decide) (by decide +kernel : decode cX9_isAbout 92 = .ok (.iconst 0, 1)), trivial⟩
theorem okb_Mo_isAbout_93 (d : Nat) (g : GG) (l : Launch) (hst : l.stackTraces = false) (ih : Snd yX9_isAbout (m_Mo_isAbout d g l) 0 0 (T_Mo_isAbout d)) : BlkOk (m_Mo_isAbout (d + 1) g l) 93 (b_Mo_isAbout_93 d g) := 
  ⟨ok_zret rfl (by decide +kernel : decode cX9_isAbout 93 = .ok (.ireturn, 1)), trivial⟩
def k_Mo_isAbout (d : Nat) (g : GG) : List (Nat × Blk) := [(0, b_Mo_isAbout_0 d g), (33, b_Mo_isAbout_33 d g), (44, b_Mo_isAbout_44 d g), (69, b_Mo_isAbout_69 d g), (72, b_Mo_isAbout_72 d g), (76, b_Mo_isAbout_76 d g), (77, b_Mo_isAbout_77 d g), (78, b_Mo_isAbout_78 d g), (92, b_Mo_isAbout_92 d g), (93, b_Mo_isAbout_93 d g)]
theorem ok_Mo_isAbout (d : Nat) (g : GG) (l : Launch) (hst : l.stackTraces = false) (ih : Snd yX9_isAbout (m_Mo_isAbout d g l) 0 0 (T_Mo_isAbout d)) : ∀ b ∈ k_Mo_isAbout d g, BlkOk (m_Mo_isAbout (d + 1) g l) b.1 b.2 := List.forall_mem_cons.mpr ⟨okb_Mo_isAbout_0 d g l hst ih, List.forall_mem_cons.mpr ⟨okb_Mo_isAbout_33 d g l hst ih, List.forall_mem_cons.mpr ⟨okb_Mo_isAbout_44 d g l hst ih, List.forall_mem_cons.mpr ⟨okb_Mo_isAbout_69 d g l hst ih, List.forall_mem_cons.mpr ⟨okb_Mo_isAbout_72 d g l hst ih, List.forall_mem_cons.mpr ⟨okb_Mo_isAbout_76 d g l hst ih, List.forall_mem_cons.mpr ⟨okb_Mo_isAbout_77 d g l hst ih, List.forall_mem_cons.mpr ⟨okb_Mo_isAbout_78 d g l hst ih, List.forall_mem_cons.mpr ⟨okb_Mo_isAbout_92 d g l hst ih, List.forall_mem_cons.mpr ⟨okb_Mo_isAbout_93 d g l hst ih, fun _ h => by cases h⟩⟩⟩⟩⟩⟩⟩⟩⟩⟩
def i_Mo_isAbout (d : Nat) (g : GG) : List (Nat × Blk) := [(33, b_Mo_isAbout_33 d g), (72, b_Mo_isAbout_72 d g), (76, b_Mo_isAbout_76 d g), (77, b_Mo_isAbout_77 d g), (78, b_Mo_isAbout_78 d g), (92, b_Mo_isAbout_92 d g), (93, b_Mo_isAbout_93 d g)]
theorem is_Mo_isAbout (d : Nat) (g : GG) : ∀ x ∈ i_Mo_isAbout d g, x ∈ k_Mo_isAbout d g := sub_at [1, 4, 5, 6, 7, 8, 9] rfl
set_option maxHeartbeats 4000000 in
theorem s_Mo_isAbout : ∀ (d : Nat) (g : GG) (l : Launch) (hst : l.stackTraces = false), Snd yX9_isAbout (m_Mo_isAbout d g l) 0 0 (T_Mo_isAbout d)
  | 0, _, _, _ => fun as f Q X h => by obtain ⟨f0, ad, cm, cl, j, col, rfl, hM, hp, hq⟩ := h; exact absurd hp.1 (Nat.not_lt_zero _)
  | d + 1, g, l, hst => by
    have ih := s_Mo_isAbout d g l hst
    refine snd_of (plainFor_of_name (by decide)) rfl (fun h => by first | rfl | cases h) rfl hst (k_Mo_isAbout d g) (ok_Mo_isAbout d g l hst ih) ?_
    rintro as f Q X ⟨f0, ad, cm, cl, j, col, rfl, hM, hp, hq⟩
    refine ⟨[some (.ref (ad 0)), some (.int (nI j)), some (.int col)], rfl, Nat.le_of_ble_eq_true rfl, fun B run => ?_⟩
    obtain ⟨hj, hj2, hF⟩ := hp
    have hj3 := hF.lt hj2
    obtain ⟨k1, k2⟩ := hF.2 j hj2
    cases hJ : isJ (cm 19 0 j)
    · obtain ⟨c, hc, e20⟩ := k2 hJ
      simp only [isJ, Bool.or_eq_false_iff, decide_eq_false_iff_not] at hJ
      obtain ⟨⟨c97, c111⟩, c110⟩ := hJ
      by_cases c9 : nI c = col <;> simp [about, isJ, c97, c111, c110, e20, c9] at hq
      all_goals repeat (first | exact hq _ hM | refine i_Mo_isAbout_ hM (by (repeat' (first | assumption | omega | apply And.intro | rfl))) fun f hM => ?_ | (refine run _ _ (i_Mo_isAbout d g) rfl (is_Mo_isAbout d g) _ _ _ _ _ ?_; simp (disch := omega) only [c97, c111, c110, e20, c9, ↓hobj_c hM.obj, mf_len, mf_19, ↓hAI_c (hM.ar 19 rfl), mf_20, ↓hAI_c (hM.ar 20 rfl), mf_21, ↓hAI_c (hM.ar 21 rfl), eq_self, nI_dec, ixE, nI_4m, nI_16m, nI_10m, nI_2m, nI_add, nI_1, nI_p2, nI_p3, nI_pred, c3_n, c3_s, c3_i, upd_s, upd_n, rowU_n, rowU_ge, true_imp_iff, false_imp_iff, not_true_eq_false, not_false_eq_true, b2i_t, b2i_f, i32_10, i32_00, i32_11, ite_true_I, false_and, and_false, true_and, and_true, or_true, true_or, false_or, or_false, ↓i_Mo_isAbout, ↓b_Mo_isAbout_0, ↓b_Mo_isAbout_33, ↓b_Mo_isAbout_44, ↓b_Mo_isAbout_69, ↓b_Mo_isAbout_72, ↓b_Mo_isAbout_76, ↓b_Mo_isAbout_77, ↓b_Mo_isAbout_78, ↓b_Mo_isAbout_92, ↓b_Mo_isAbout_93, ↓wpL, ↓wpI, Nat.reduceBEq, cond_true, cond_false, lget, lset, lclr, fget, fset, ctake, cdrop, c1, Nat.reduceAdd, ↓o_iadd, ↓o_isub, ↓o_imul, ↓o_iand, ↓o_ior, ↓o_ixor, ↓o_ishl, ↓o_ishr, ↓o_iushr, ↓o_idiv, ↓o_irem, ↓o_ineg, ↓o_ladd, ↓o_lcmp, ↓o_i2l, ↓o_i2c, ↓o_i2d, ↓o_i2f, ↓o_l2f, ↓o_f2d, ↓o_fdiv, ↓o_ddiv, ↓o_dcmp_l, ↓o_dcmp_g, ↓o_fcmp_l, ↓o_fcmp_g, ↓o_push, ↓o_iload, ↓o_fload, ↓o_dload, ↓o_aload, ↓o_istore, ↓o_fstore, ↓o_astore, ↓o_iinc, ↓o_ifeq, ↓o_ifne, ↓o_iflt, ↓o_ifge, ↓o_ifgt, ↓o_ifle, ↓o_iceq, ↓o_icne, ↓o_iclt, ↓o_icge, ↓o_icgt, ↓o_icle, ↓o_goto, ↓o_dup, ↓o_pop, ↓o_dup_x1, ↓o_dup2, ↓o_getf, ↓o_putI, ↓o_putJ, ↓o_putC, ↓o_putR, ↓o_iald, ↓o_zald, ↓o_cald, ↓o_lald, ↓o_dald, ↓o_iast, ↓o_zast, ↓o_cast, ↓o_last, ↓o_dast, ↓o_aald, ↓o_alen, ↓o_throw, ↓o_iret, ↓o_zret, ↓o_cret, ↓o_aret, ↓o_lret, ↓o_fret, ↓o_dret, ↓o_vret, ↓o_new, ↓o_newarr, ↓o_pop1, ↓o_scald, ↓o_salen, ↓o_call, ↓o_callV, ↓o_callX, ↓o_callI, ↓o_call0, ↓o_callR, List.reverse_cons, List.reverse_nil, List.nil_append, List.cons_append, Option.toList_some, Option.toList_none, List.length_cons, List.length_nil, true_and, and_true, true_or, or_true, Nat.reduceLeDiff, Nat.reduceLT, Nat.zero_le, List.append_nil, if_pos, Nat.reduceLeDiff]) | refine ⟨_, rfl, by omega, by omega, ?_⟩ | refine ⟨by (first | exact b2i_01 _ | decide | assumption | (exact or_01 ‹_› (b2i_01 _)) | (simp; done)), ?_⟩)
    · obtain ⟨⟨a, ha, e20⟩, kb⟩ := k1 hJ
      simp only [about, hJ, if_true, e20, nn_nI (show a < 2147483648 by omega)] at hq
      cases h1 : about cm col d a
      · by_cases c110 : cm 19 0 j = 110
        · simp [h1, c110] at hq
          repeat (first | exact hq _ hM | refine i_Mo_isAbout_ hM (by (repeat' (first | assumption | omega | apply And.intro | rfl))) fun f hM => ?_ | (refine run _ _ (i_Mo_isAbout d g) rfl (is_Mo_isAbout d g) _ _ _ _ _ ?_; simp (disch := omega) only [c110, e20, h1, i110_97, i110_111, ↓hobj_c hM.obj, mf_len, mf_19, ↓hAI_c (hM.ar 19 rfl), mf_20, ↓hAI_c (hM.ar 20 rfl), mf_21, ↓hAI_c (hM.ar 21 rfl), eq_self, nI_dec, ixE, nI_4m, nI_16m, nI_10m, nI_2m, nI_add, nI_1, nI_p2, nI_p3, nI_pred, c3_n, c3_s, c3_i, upd_s, upd_n, rowU_n, rowU_ge, true_imp_iff, false_imp_iff, not_true_eq_false, not_false_eq_true, b2i_t, b2i_f, i32_10, i32_00, i32_11, ite_true_I, false_and, and_false, true_and, and_true, or_true, true_or, false_or, or_false, ↓i_Mo_isAbout, ↓b_Mo_isAbout_0, ↓b_Mo_isAbout_33, ↓b_Mo_isAbout_44, ↓b_Mo_isAbout_69, ↓b_Mo_isAbout_72, ↓b_Mo_isAbout_76, ↓b_Mo_isAbout_77, ↓b_Mo_isAbout_78, ↓b_Mo_isAbout_92, ↓b_Mo_isAbout_93, ↓wpL, ↓wpI, Nat.reduceBEq, cond_true, cond_false, lget, lset, lclr, fget, fset, ctake, cdrop, c1, Nat.reduceAdd, ↓o_iadd, ↓o_isub, ↓o_imul, ↓o_iand, ↓o_ior, ↓o_ixor, ↓o_ishl, ↓o_ishr, ↓o_iushr, ↓o_idiv, ↓o_irem, ↓o_ineg, ↓o_ladd, ↓o_lcmp, ↓o_i2l, ↓o_i2c, ↓o_i2d, ↓o_i2f, ↓o_l2f, ↓o_f2d, ↓o_fdiv, ↓o_ddiv, ↓o_dcmp_l, ↓o_dcmp_g, ↓o_fcmp_l, ↓o_fcmp_g, ↓o_push, ↓o_iload, ↓o_fload, ↓o_dload, ↓o_aload, ↓o_istore, ↓o_fstore, ↓o_astore, ↓o_iinc, ↓o_ifeq, ↓o_ifne, ↓o_iflt, ↓o_ifge, ↓o_ifgt, ↓o_ifle, ↓o_iceq, ↓o_icne, ↓o_iclt, ↓o_icge, ↓o_icgt, ↓o_icle, ↓o_goto, ↓o_dup, ↓o_pop, ↓o_dup_x1, ↓o_dup2, ↓o_getf, ↓o_putI, ↓o_putJ, ↓o_putC, ↓o_putR, ↓o_iald, ↓o_zald, ↓o_cald, ↓o_lald, ↓o_dald, ↓o_iast, ↓o_zast, ↓o_cast, ↓o_last, ↓o_dast, ↓o_aald, ↓o_alen, ↓o_throw, ↓o_iret, ↓o_zret, ↓o_cret, ↓o_aret, ↓o_lret, ↓o_fret, ↓o_dret, ↓o_vret, ↓o_new, ↓o_newarr, ↓o_pop1, ↓o_scald, ↓o_salen, ↓o_call, ↓o_callV, ↓o_callX, ↓o_callI, ↓o_call0, ↓o_callR, List.reverse_cons, List.reverse_nil, List.nil_append, List.cons_append, Option.toList_some, Option.toList_none, List.length_cons, List.length_nil, true_and, and_true, true_or, or_true, Nat.reduceLeDiff, Nat.reduceLT, Nat.zero_le, List.append_nil, if_pos, Nat.reduceLeDiff]) | refine ⟨_, rfl, by omega, by omega, ?_⟩ | refine ⟨by (first | exact b2i_01 _ | decide | assumption | (exact or_01 ‹_› (b2i_01 _)) | (simp; done)), ?_⟩)
        · obtain ⟨b, hb, e21⟩ := kb c110
          simp only [e21, nn_nI (show b < 2147483648 by omega)] at hq
          have hJ2 : cm 19 0 j = 97 ∨ cm 19 0 j = 111 := by simp [isJ, c110] at hJ; exact hJ
          cases h2 : about cm col d b <;> simp [h1, h2, c110] at hq <;> rcases hJ2 with c97 | c111
          · repeat (first | exact hq _ hM | refine i_Mo_isAbout_ hM (by (repeat' (first | assumption | omega | apply And.intro | rfl))) fun f hM => ?_ | (refine run _ _ (i_Mo_isAbout d g) rfl (is_Mo_isAbout d g) _ _ _ _ _ ?_; simp (disch := omega) only [c97, e20, e21, h1, h2, i97_110, ↓hobj_c hM.obj, mf_len, mf_19, ↓hAI_c (hM.ar 19 rfl), mf_20, ↓hAI_c (hM.ar 20 rfl), mf_21, ↓hAI_c (hM.ar 21 rfl), eq_self, nI_dec, ixE, nI_4m, nI_16m, nI_10m, nI_2m, nI_add, nI_1, nI_p2, nI_p3, nI_pred, c3_n, c3_s, c3_i, upd_s, upd_n, rowU_n, rowU_ge, true_imp_iff, false_imp_iff, not_true_eq_false, not_false_eq_true, b2i_t, b2i_f, i32_10, i32_00, i32_11, ite_true_I, false_and, and_false, true_and, and_true, or_true, true_or, false_or, or_false, ↓i_Mo_isAbout, ↓b_Mo_isAbout_0, ↓b_Mo_isAbout_33, ↓b_Mo_isAbout_44, ↓b_Mo_isAbout_69, ↓b_Mo_isAbout_72, ↓b_Mo_isAbout_76, ↓b_Mo_isAbout_77, ↓b_Mo_isAbout_78, ↓b_Mo_isAbout_92, ↓b_Mo_isAbout_93, ↓wpL, ↓wpI, Nat.reduceBEq, cond_true, cond_false, lget, lset, lclr, fget, fset, ctake, cdrop, c1, Nat.reduceAdd, ↓o_iadd, ↓o_isub, ↓o_imul, ↓o_iand, ↓o_ior, ↓o_ixor, ↓o_ishl, ↓o_ishr, ↓o_iushr, ↓o_idiv, ↓o_irem, ↓o_ineg, ↓o_ladd, ↓o_lcmp, ↓o_i2l, ↓o_i2c, ↓o_i2d, ↓o_i2f, ↓o_l2f, ↓o_f2d, ↓o_fdiv, ↓o_ddiv, ↓o_dcmp_l, ↓o_dcmp_g, ↓o_fcmp_l, ↓o_fcmp_g, ↓o_push, ↓o_iload, ↓o_fload, ↓o_dload, ↓o_aload, ↓o_istore, ↓o_fstore, ↓o_astore, ↓o_iinc, ↓o_ifeq, ↓o_ifne, ↓o_iflt, ↓o_ifge, ↓o_ifgt, ↓o_ifle, ↓o_iceq, ↓o_icne, ↓o_iclt, ↓o_icge, ↓o_icgt, ↓o_icle, ↓o_goto, ↓o_dup, ↓o_pop, ↓o_dup_x1, ↓o_dup2, ↓o_getf, ↓o_putI, ↓o_putJ, ↓o_putC, ↓o_putR, ↓o_iald, ↓o_zald, ↓o_cald, ↓o_lald, ↓o_dald, ↓o_iast, ↓o_zast, ↓o_cast, ↓o_last, ↓o_dast, ↓o_aald, ↓o_alen, ↓o_throw, ↓o_iret, ↓o_zret, ↓o_cret, ↓o_aret, ↓o_lret, ↓o_fret, ↓o_dret, ↓o_vret, ↓o_new, ↓o_newarr, ↓o_pop1, ↓o_scald, ↓o_salen, ↓o_call, ↓o_callV, ↓o_callX, ↓o_callI, ↓o_call0, ↓o_callR, List.reverse_cons, List.reverse_nil, List.nil_append, List.cons_append, Option.toList_some, Option.toList_none, List.length_cons, List.length_nil, true_and, and_true, true_or, or_true, Nat.reduceLeDiff, Nat.reduceLT, Nat.zero_le, List.append_nil, if_pos, Nat.reduceLeDiff]) | refine ⟨_, rfl, by omega, by omega, ?_⟩ | refine ⟨by (first | exact b2i_01 _ | decide | assumption | (exact or_01 ‹_› (b2i_01 _)) | (simp; done)), ?_⟩)
          · repeat (first | exact hq _ hM | refine i_Mo_isAbout_ hM (by (repeat' (first | assumption | omega | apply And.intro | rfl))) fun f hM => ?_ | (refine run _ _ (i_Mo_isAbout d g) rfl (is_Mo_isAbout d g) _ _ _ _ _ ?_; simp (disch := omega) only [c111, e20, e21, h1, h2, i111_110, i111_97, ↓hobj_c hM.obj, mf_len, mf_19, ↓hAI_c (hM.ar 19 rfl), mf_20, ↓hAI_c (hM.ar 20 rfl), mf_21, ↓hAI_c (hM.ar 21 rfl), eq_self, nI_dec, ixE, nI_4m, nI_16m, nI_10m, nI_2m, nI_add, nI_1, nI_p2, nI_p3, nI_pred, c3_n, c3_s, c3_i, upd_s, upd_n, rowU_n, rowU_ge, true_imp_iff, false_imp_iff, not_true_eq_false, not_false_eq_true, b2i_t, b2i_f, i32_10, i32_00, i32_11, ite_true_I, false_and, and_false, true_and, and_true, or_true, true_or, false_or, or_false, ↓i_Mo_isAbout, ↓b_Mo_isAbout_0, ↓b_Mo_isAbout_33, ↓b_Mo_isAbout_44, ↓b_Mo_isAbout_69, ↓b_Mo_isAbout_72, ↓b_Mo_isAbout_76, ↓b_Mo_isAbout_77, ↓b_Mo_isAbout_78, ↓b_Mo_isAbout_92, ↓b_Mo_isAbout_93, ↓wpL, ↓wpI, Nat.reduceBEq, cond_true, cond_false, lget, lset, lclr, fget, fset, ctake, cdrop, c1, Nat.reduceAdd, ↓o_iadd, ↓o_isub, ↓o_imul, ↓o_iand, ↓o_ior, ↓o_ixor, ↓o_ishl, ↓o_ishr, ↓o_iushr, ↓o_idiv, ↓o_irem, ↓o_ineg, ↓o_ladd, ↓o_lcmp, ↓o_i2l, ↓o_i2c, ↓o_i2d, ↓o_i2f, ↓o_l2f, ↓o_f2d, ↓o_fdiv, ↓o_ddiv, ↓o_dcmp_l, ↓o_dcmp_g, ↓o_fcmp_l, ↓o_fcmp_g, ↓o_push, ↓o_iload, ↓o_fload, ↓o_dload, ↓o_aload, ↓o_istore, ↓o_fstore, ↓o_astore, ↓o_iinc, ↓o_ifeq, ↓o_ifne, ↓o_iflt, ↓o_ifge, ↓o_ifgt, ↓o_ifle, ↓o_iceq, ↓o_icne, ↓o_iclt, ↓o_icge, ↓o_icgt, ↓o_icle, ↓o_goto, ↓o_dup, ↓o_pop, ↓o_dup_x1, ↓o_dup2, ↓o_getf, ↓o_putI, ↓o_putJ, ↓o_putC, ↓o_putR, ↓o_iald, ↓o_zald, ↓o_cald, ↓o_lald, ↓o_dald, ↓o_iast, ↓o_zast, ↓o_cast, ↓o_last, ↓o_dast, ↓o_aald, ↓o_alen, ↓o_throw, ↓o_iret, ↓o_zret, ↓o_cret, ↓o_aret, ↓o_lret, ↓o_fret, ↓o_dret, ↓o_vret, ↓o_new, ↓o_newarr, ↓o_pop1, ↓o_scald, ↓o_salen, ↓o_call, ↓o_callV, ↓o_callX, ↓o_callI, ↓o_call0, ↓o_callR, List.reverse_cons, List.reverse_nil, List.nil_append, List.cons_append, Option.toList_some, Option.toList_none, List.length_cons, List.length_nil, true_and, and_true, true_or, or_true, Nat.reduceLeDiff, Nat.reduceLT, Nat.zero_le, List.append_nil, if_pos, Nat.reduceLeDiff]) | refine ⟨_, rfl, by omega, by omega, ?_⟩ | refine ⟨by (first | exact b2i_01 _ | decide | assumption | (exact or_01 ‹_› (b2i_01 _)) | (simp; done)), ?_⟩)
          · repeat (first | exact hq _ hM | refine i_Mo_isAbout_ hM (by (repeat' (first | assumption | omega | apply And.intro | rfl))) fun f hM => ?_ | (refine run _ _ (i_Mo_isAbout d g) rfl (is_Mo_isAbout d g) _ _ _ _ _ ?_; simp (disch := omega) only [c97, e20, e21, h1, h2, i97_110, ↓hobj_c hM.obj, mf_len, mf_19, ↓hAI_c (hM.ar 19 rfl), mf_20, ↓hAI_c (hM.ar 20 rfl), mf_21, ↓hAI_c (hM.ar 21 rfl), eq_self, nI_dec, ixE, nI_4m, nI_16m, nI_10m, nI_2m, nI_add, nI_1, nI_p2, nI_p3, nI_pred, c3_n, c3_s, c3_i, upd_s, upd_n, rowU_n, rowU_ge, true_imp_iff, false_imp_iff, not_true_eq_false, not_false_eq_true, b2i_t, b2i_f, i32_10, i32_00, i32_11, ite_true_I, false_and, and_false, true_and, and_true, or_true, true_or, false_or, or_false, ↓i_Mo_isAbout, ↓b_Mo_isAbout_0, ↓b_Mo_isAbout_33, ↓b_Mo_isAbout_44, ↓b_Mo_isAbout_69, ↓b_Mo_isAbout_72, ↓b_Mo_isAbout_76, ↓b_Mo_isAbout_77, ↓b_Mo_isAbout_78, ↓b_Mo_isAbout_92, ↓b_Mo_isAbout_93, ↓wpL, ↓wpI, Nat.reduceBEq, cond_true, cond_false, lget, lset, lclr, fget, fset, ctake, cdrop, c1, Nat.reduceAdd, ↓o_iadd, ↓o_isub, ↓o_imul, ↓o_iand, ↓o_ior, ↓o_ixor, ↓o_ishl, ↓o_ishr, ↓o_iushr, ↓o_idiv, ↓o_irem, ↓o_ineg, ↓o_ladd, ↓o_lcmp, ↓o_i2l, ↓o_i2c, ↓o_i2d, ↓o_i2f, ↓o_l2f, ↓o_f2d, ↓o_fdiv, ↓o_ddiv, ↓o_dcmp_l, ↓o_dcmp_g, ↓o_fcmp_l, ↓o_fcmp_g, ↓o_push, ↓o_iload, ↓o_fload, ↓o_dload, ↓o_aload, ↓o_istore, ↓o_fstore, ↓o_astore, ↓o_iinc, ↓o_ifeq, ↓o_ifne, ↓o_iflt, ↓o_ifge, ↓o_ifgt, ↓o_ifle, ↓o_iceq, ↓o_icne, ↓o_iclt, ↓o_icge, ↓o_icgt, ↓o_icle, ↓o_goto, ↓o_dup, ↓o_pop, ↓o_dup_x1, ↓o_dup2, ↓o_getf, ↓o_putI, ↓o_putJ, ↓o_putC, ↓o_putR, ↓o_iald, ↓o_zald, ↓o_cald, ↓o_lald, ↓o_dald, ↓o_iast, ↓o_zast, ↓o_cast, ↓o_last, ↓o_dast, ↓o_aald, ↓o_alen, ↓o_throw, ↓o_iret, ↓o_zret, ↓o_cret, ↓o_aret, ↓o_lret, ↓o_fret, ↓o_dret, ↓o_vret, ↓o_new, ↓o_newarr, ↓o_pop1, ↓o_scald, ↓o_salen, ↓o_call, ↓o_callV, ↓o_callX, ↓o_callI, ↓o_call0, ↓o_callR, List.reverse_cons, List.reverse_nil, List.nil_append, List.cons_append, Option.toList_some, Option.toList_none, List.length_cons, List.length_nil, true_and, and_true, true_or, or_true, Nat.reduceLeDiff, Nat.reduceLT, Nat.zero_le, List.append_nil, if_pos, Nat.reduceLeDiff]) | refine ⟨_, rfl, by omega, by omega, ?_⟩ | refine ⟨by (first | exact b2i_01 _ | decide | assumption | (exact or_01 ‹_› (b2i_01 _)) | (simp; done)), ?_⟩)
          · repeat (first | exact hq _ hM | refine i_Mo_isAbout_ hM (by (repeat' (first | assumption | omega | apply And.intro | rfl))) fun f hM => ?_ | (refine run _ _ (i_Mo_isAbout d g) rfl (is_Mo_isAbout d g) _ _ _ _ _ ?_; simp (disch := omega) only [c111, e20, e21, h1, h2, i111_110, i111_97, ↓hobj_c hM.obj, mf_len, mf_19, ↓hAI_c (hM.ar 19 rfl), mf_20, ↓hAI_c (hM.ar 20 rfl), mf_21, ↓hAI_c (hM.ar 21 rfl), eq_self, nI_dec, ixE, nI_4m, nI_16m, nI_10m, nI_2m, nI_add, nI_1, nI_p2, nI_p3, nI_pred, c3_n, c3_s, c3_i, upd_s, upd_n, rowU_n, rowU_ge, true_imp_iff, false_imp_iff, not_true_eq_false, not_false_eq_true, b2i_t, b2i_f, i32_10, i32_00, i32_11, ite_true_I, false_and, and_false, true_and, and_true, or_true, true_or, false_or, or_false, ↓i_Mo_isAbout, ↓b_Mo_isAbout_0, ↓b_Mo_isAbout_33, ↓b_Mo_isAbout_44, ↓b_Mo_isAbout_69, ↓b_Mo_isAbout_72, ↓b_Mo_isAbout_76, ↓b_Mo_isAbout_77, ↓b_Mo_isAbout_78, ↓b_Mo_isAbout_92, ↓b_Mo_isAbout_93, ↓wpL, ↓wpI, Nat.reduceBEq, cond_true, cond_false, lget, lset, lclr, fget, fset, ctake, cdrop, c1, Nat.reduceAdd, ↓o_iadd, ↓o_isub, ↓o_imul, ↓o_iand, ↓o_ior, ↓o_ixor, ↓o_ishl, ↓o_ishr, ↓o_iushr, ↓o_idiv, ↓o_irem, ↓o_ineg, ↓o_ladd, ↓o_lcmp, ↓o_i2l, ↓o_i2c, ↓o_i2d, ↓o_i2f, ↓o_l2f, ↓o_f2d, ↓o_fdiv, ↓o_ddiv, ↓o_dcmp_l, ↓o_dcmp_g, ↓o_fcmp_l, ↓o_fcmp_g, ↓o_push, ↓o_iload, ↓o_fload, ↓o_dload, ↓o_aload, ↓o_istore, ↓o_fstore, ↓o_astore, ↓o_iinc, ↓o_ifeq, ↓o_ifne, ↓o_iflt, ↓o_ifge, ↓o_ifgt, ↓o_ifle, ↓o_iceq, ↓o_icne, ↓o_iclt, ↓o_icge, ↓o_icgt, ↓o_icle, ↓o_goto, ↓o_dup, ↓o_pop, ↓o_dup_x1, ↓o_dup2, ↓o_getf, ↓o_putI, ↓o_putJ, ↓o_putC, ↓o_putR, ↓o_iald, ↓o_zald, ↓o_cald, ↓o_lald, ↓o_dald, ↓o_iast, ↓o_zast, ↓o_cast, ↓o_last, ↓o_dast, ↓o_aald, ↓o_alen, ↓o_throw, ↓o_iret, ↓o_zret, ↓o_cret, ↓o_aret, ↓o_lret, ↓o_fret, ↓o_dret, ↓o_vret, ↓o_new, ↓o_newarr, ↓o_pop1, ↓o_scald, ↓o_salen, ↓o_call, ↓o_callV, ↓o_callX, ↓o_callI, ↓o_call0, ↓o_callR, List.reverse_cons, List.reverse_nil, List.nil_append, List.cons_append, Option.toList_some, Option.toList_none, List.length_cons, List.length_nil, true_and, and_true, true_or, or_true, Nat.reduceLeDiff, Nat.reduceLT, Nat.zero_le, List.append_nil, if_pos, Nat.reduceLeDiff]) | refine ⟨_, rfl, by omega, by omega, ?_⟩ | refine ⟨by (first | exact b2i_01 _ | decide | assumption | (exact or_01 ‹_› (b2i_01 _)) | (simp; done)), ?_⟩)
      · simp [h1] at hq
        have hJ2 : cm 19 0 j = 97 ∨ cm 19 0 j = 111 ∨ cm 19 0 j = 110 := by simp [isJ, or_assoc] at hJ; exact hJ
        rcases hJ2 with c97 | c111 | c110
        · repeat (first | exact hq _ hM | refine i_Mo_isAbout_ hM (by (repeat' (first | assumption | omega | apply And.intro | rfl))) fun f hM => ?_ | (refine run _ _ (i_Mo_isAbout d g) rfl (is_Mo_isAbout d g) _ _ _ _ _ ?_; simp (disch := omega) only [c97, e20, h1, i97_110, ↓hobj_c hM.obj, mf_len, mf_19, ↓hAI_c (hM.ar 19 rfl), mf_20, ↓hAI_c (hM.ar 20 rfl), mf_21, ↓hAI_c (hM.ar 21 rfl), eq_self, nI_dec, ixE, nI_4m, nI_16m, nI_10m, nI_2m, nI_add, nI_1, nI_p2, nI_p3, nI_pred, c3_n, c3_s, c3_i, upd_s, upd_n, rowU_n, rowU_ge, true_imp_iff, false_imp_iff, not_true_eq_false, not_false_eq_true, b2i_t, b2i_f, i32_10, i32_00, i32_11, ite_true_I, false_and, and_false, true_and, and_true, or_true, true_or, false_or, or_false, ↓i_Mo_isAbout, ↓b_Mo_isAbout_0, ↓b_Mo_isAbout_33, ↓b_Mo_isAbout_44, ↓b_Mo_isAbout_69, ↓b_Mo_isAbout_72, ↓b_Mo_isAbout_76, ↓b_Mo_isAbout_77, ↓b_Mo_isAbout_78, ↓b_Mo_isAbout_92, ↓b_Mo_isAbout_93, ↓wpL, ↓wpI, Nat.reduceBEq, cond_true, cond_false, lget, lset, lclr, fget, fset, ctake, cdrop, c1, Nat.reduceAdd, ↓o_iadd, ↓o_isub, ↓o_imul, ↓o_iand, ↓o_ior, ↓o_ixor, ↓o_ishl, ↓o_ishr, ↓o_iushr, ↓o_idiv, ↓o_irem, ↓o_ineg, ↓o_ladd, ↓o_lcmp, ↓o_i2l, ↓o_i2c, ↓o_i2d, ↓o_i2f, ↓o_l2f, ↓o_f2d, ↓o_fdiv, ↓o_ddiv, ↓o_dcmp_l, ↓o_dcmp_g, ↓o_fcmp_l, ↓o_fcmp_g, ↓o_push, ↓o_iload, ↓o_fload, ↓o_dload, ↓o_aload, ↓o_istore, ↓o_fstore, ↓o_astore, ↓o_iinc, ↓o_ifeq, ↓o_ifne, ↓o_iflt, ↓o_ifge, ↓o_ifgt, ↓o_ifle, ↓o_iceq, ↓o_icne, ↓o_iclt, ↓o_icge, ↓o_icgt, ↓o_icle, ↓o_goto, ↓o_dup, ↓o_pop, ↓o_dup_x1, ↓o_dup2, ↓o_getf, ↓o_putI, ↓o_putJ, ↓o_putC, ↓o_putR, ↓o_iald, ↓o_zald, ↓o_cald, ↓o_lald, ↓o_dald, ↓o_iast, ↓o_zast, ↓o_cast, ↓o_last, ↓o_dast, ↓o_aald, ↓o_alen, ↓o_throw, ↓o_iret, ↓o_zret, ↓o_cret, ↓o_aret, ↓o_lret, ↓o_fret, ↓o_dret, ↓o_vret, ↓o_new, ↓o_newarr, ↓o_pop1, ↓o_scald, ↓o_salen, ↓o_call, ↓o_callV, ↓o_callX, ↓o_callI, ↓o_call0, ↓o_callR, List.reverse_cons, List.reverse_nil, List.nil_append, List.cons_append, Option.toList_some, Option.toList_none, List.length_cons, List.length_nil, true_and, and_true, true_or, or_true, Nat.reduceLeDiff, Nat.reduceLT, Nat.zero_le, List.append_nil, if_pos, Nat.reduceLeDiff]) | refine ⟨_, rfl, by omega, by omega, ?_⟩ | refine ⟨by (first | exact b2i_01 _ | decide | assumption | (exact or_01 ‹_› (b2i_01 _)) | (simp; done)), ?_⟩)
        · repeat (first | exact hq _ hM | refine i_Mo_isAbout_ hM (by (repeat' (first | assumption | omega | apply And.intro | rfl))) fun f hM => ?_ | (refine run _ _ (i_Mo_isAbout d g) rfl (is_Mo_isAbout d g) _ _ _ _ _ ?_; simp (disch := omega) only [c111, e20, h1, i111_110, i111_97, ↓hobj_c hM.obj, mf_len, mf_19, ↓hAI_c (hM.ar 19 rfl), mf_20, ↓hAI_c (hM.ar 20 rfl), mf_21, ↓hAI_c (hM.ar 21 rfl), eq_self, nI_dec, ixE, nI_4m, nI_16m, nI_10m, nI_2m, nI_add, nI_1, nI_p2, nI_p3, nI_pred, c3_n, c3_s, c3_i, upd_s, upd_n, rowU_n, rowU_ge, true_imp_iff, false_imp_iff, not_true_eq_false, not_false_eq_true, b2i_t, b2i_f, i32_10, i32_00, i32_11, ite_true_I, false_and, and_false, true_and, and_true, or_true, true_or, false_or, or_false, ↓i_Mo_isAbout, ↓b_Mo_isAbout_0, ↓b_Mo_isAbout_33, ↓b_Mo_isAbout_44, ↓b_Mo_isAbout_69, ↓b_Mo_isAbout_72, ↓b_Mo_isAbout_76, ↓b_Mo_isAbout_77, ↓b_Mo_isAbout_78, ↓b_Mo_isAbout_92, ↓b_Mo_isAbout_93, ↓wpL, ↓wpI, Nat.reduceBEq, cond_true, cond_false, lget, lset, lclr, fget, fset, ctake, cdrop, c1, Nat.reduceAdd, ↓o_iadd, ↓o_isub, ↓o_imul, ↓o_iand, ↓o_ior, ↓o_ixor, ↓o_ishl, ↓o_ishr, ↓o_iushr, ↓o_idiv, ↓o_irem, ↓o_ineg, ↓o_ladd, ↓o_lcmp, ↓o_i2l, ↓o_i2c, ↓o_i2d, ↓o_i2f, ↓o_l2f, ↓o_f2d, ↓o_fdiv, ↓o_ddiv, ↓o_dcmp_l, ↓o_dcmp_g, ↓o_fcmp_l, ↓o_fcmp_g, ↓o_push, ↓o_iload, ↓o_fload, ↓o_dload, ↓o_aload, ↓o_istore, ↓o_fstore, ↓o_astore, ↓o_iinc, ↓o_ifeq, ↓o_ifne, ↓o_iflt, ↓o_ifge, ↓o_ifgt, ↓o_ifle, ↓o_iceq, ↓o_icne, ↓o_iclt, ↓o_icge, ↓o_icgt, ↓o_icle, ↓o_goto, ↓o_dup, ↓o_pop, ↓o_dup_x1, ↓o_dup2, ↓o_getf, ↓o_putI, ↓o_putJ, ↓o_putC, ↓o_putR, ↓o_iald, ↓o_zald, ↓o_cald, ↓o_lald, ↓o_dald, ↓o_iast, ↓o_zast, ↓o_cast, ↓o_last, ↓o_dast, ↓o_aald, ↓o_alen, ↓o_throw, ↓o_iret, ↓o_zret, ↓o_cret, ↓o_aret, ↓o_lret, ↓o_fret, ↓o_dret, ↓o_vret, ↓o_new, ↓o_newarr, ↓o_pop1, ↓o_scald, ↓o_salen, ↓o_call, ↓o_callV, ↓o_callX, ↓o_callI, ↓o_call0, ↓o_callR, List.reverse_cons, List.reverse_nil, List.nil_append, List.cons_append, Option.toList_some, Option.toList_none, List.length_cons, List.length_nil, true_and, and_true, true_or, or_true, Nat.reduceLeDiff, Nat.reduceLT, Nat.zero_le, List.append_nil, if_pos, Nat.reduceLeDiff]) | refine ⟨_, rfl, by omega, by omega, ?_⟩ | refine ⟨by (first | exact b2i_01 _ | decide | assumption | (exact or_01 ‹_› (b2i_01 _)) | (simp; done)), ?_⟩)
        · repeat (first | exact hq _ hM | refine i_Mo_isAbout_ hM (by (repeat' (first | assumption | omega | apply And.intro | rfl))) fun f hM => ?_ | (refine run _ _ (i_Mo_isAbout d g) rfl (is_Mo_isAbout d g) _ _ _ _ _ ?_; simp (disch := omega) only [c110, e20, h1, i110_97, i110_111, ↓hobj_c hM.obj, mf_len, mf_19, ↓hAI_c (hM.ar 19 rfl), mf_20, ↓hAI_c (hM.ar 20 rfl), mf_21, ↓hAI_c (hM.ar 21 rfl), eq_self, nI_dec, ixE, nI_4m, nI_16m, nI_10m, nI_2m, nI_add, nI_1, nI_p2, nI_p3, nI_pred, c3_n, c3_s, c3_i, upd_s, upd_n, rowU_n, rowU_ge, true_imp_iff, false_imp_iff, not_true_eq_false, not_false_eq_true, b2i_t, b2i_f, i32_10, i32_00, i32_11, ite_true_I, false_and, and_false, true_and, and_true, or_true, true_or, false_or, or_false, ↓i_Mo_isAbout, ↓b_Mo_isAbout_0, ↓b_Mo_isAbout_33, ↓b_Mo_isAbout_44, ↓b_Mo_isAbout_69, ↓b_Mo_isAbout_72, ↓b_Mo_isAbout_76, ↓b_Mo_isAbout_77, ↓b_Mo_isAbout_78, ↓b_Mo_isAbout_92, ↓b_Mo_isAbout_93, ↓wpL, ↓wpI, Nat.reduceBEq, cond_true, cond_false, lget, lset, lclr, fget, fset, ctake, cdrop, c1, Nat.reduceAdd, ↓o_iadd, ↓o_isub, ↓o_imul, ↓o_iand, ↓o_ior, ↓o_ixor, ↓o_ishl, ↓o_ishr, ↓o_iushr, ↓o_idiv, ↓o_irem, ↓o_ineg, ↓o_ladd, ↓o_lcmp, ↓o_i2l, ↓o_i2c, ↓o_i2d, ↓o_i2f, ↓o_l2f, ↓o_f2d, ↓o_fdiv, ↓o_ddiv, ↓o_dcmp_l, ↓o_dcmp_g, ↓o_fcmp_l, ↓o_fcmp_g, ↓o_push, ↓o_iload, ↓o_fload, ↓o_dload, ↓o_aload, ↓o_istore, ↓o_fstore, ↓o_astore, ↓o_iinc, ↓o_ifeq, ↓o_ifne, ↓o_iflt, ↓o_ifge, ↓o_ifgt, ↓o_ifle, ↓o_iceq, ↓o_icne, ↓o_iclt, ↓o_icge, ↓o_icgt, ↓o_icle, ↓o_goto, ↓o_dup, ↓o_pop, ↓o_dup_x1, ↓o_dup2, ↓o_getf, ↓o_putI, ↓o_putJ, ↓o_putC, ↓o_putR, ↓o_iald, ↓o_zald, ↓o_cald, ↓o_lald, ↓o_dald, ↓o_iast, ↓o_zast, ↓o_cast, ↓o_last, ↓o_dast, ↓o_aald, ↓o_alen, ↓o_throw, ↓o_iret, ↓o_zret, ↓o_cret, ↓o_aret, ↓o_lret, ↓o_fret, ↓o_dret, ↓o_vret, ↓o_new, ↓o_newarr, ↓o_pop1, ↓o_scald, ↓o_salen, ↓o_call, ↓o_callV, ↓o_callX, ↓o_callI, ↓o_call0, ↓o_callR, List.reverse_cons, List.reverse_nil, List.nil_append, List.cons_append, Option.toList_some, Option.toList_none, List.length_cons, List.length_nil, true_and, and_true, true_or, or_true, Nat.reduceLeDiff, Nat.reduceLT, Nat.zero_le, List.append_nil, if_pos, Nat.reduceLeDiff]) | refine ⟨_, rfl, by omega, by omega, ?_⟩ | refine ⟨by (first | exact b2i_01 _ | decide | assumption | (exact or_01 ‹_› (b2i_01 _)) | (simp; done)), ?_⟩)
/-- whether a write to a column touches a scan's result -/
def tchB (cm : CM) (col : Int32) (k : Nat) : Bool := decide (col < 0) || decide (cm 24 0 k = col) || decide (cm 25 0 k = col) || about cm col 30 (nn (cm 23 0 k))
def tchF (cm : CM) (col : Int32) (k : Nat) : Int32 := cm 50 0 k ||| b2i (tchB cm col k)
def tchC (cm : CM) (col : Int32) : CM := rowU cm 50 0 (tchF cm col) (nn (cm 4 0 0))
/-- the scans stand upon filters that are there -/
def SOk (cm : CM) : Prop := Nb (cm 4 0 0) 40 ∧ ∀ k, k < nn (cm 4 0 0) → b01 (cm 50 0 k) ∧ ∃ j, j < nn (cm 3 0 0) ∧ cm 23 0 k = nI j
def T_Mo_touches : Spec2 := fun as f Q _ => ∃ (f0 : AH) (ad : Nat → Nat) (cm : CM) (cl : CL) (col : Int32), as = [.ref (ad 0), .int col] ∧ MR f0 f ad cm cl ∧ (FOk cm ∧ SOk cm) ∧ ∀ f', MR f0 f' ad (tchC cm col) (cl) → Q (none) f'
theorem i_Mo_touches_ {f0 : AH} {ad : Nat → Nat} {cm : CM} {cl : CL} {col : Int32} {f : AH} {Q : Option Value → AH → Prop} {X : String → AH → Prop} (hM : MR f0 f ad cm cl) (hp : FOk cm ∧ SOk cm) (h : ∀ f', MR f0 f' ad (tchC cm col) (cl) → Q (none) f') : T_Mo_touches [.ref (ad 0), .int col] f Q X := ⟨f0, ad, cm, cl, col, rfl, hM, hp, h⟩
abbrev m_Mo_touches (g : GG) (l : Launch) : MI := (RX9, cX9_touches, 3, none, [], false, 32, g, l)
def b_Mo_touches_0 (g : GG) : Blk := [(1, o_push (.int 0)), (1, o_istore 2)]
def b_Mo_touches_2 (g : GG) : Blk := [(1, o_iload 2), (1, o_aload 0), (3, o_getf 10 4), (3, o_icge 68), (1, o_aload 0), (3, o_getf 10 50), (1, o_iload 2), (1, o_dup2), (1, o_zald), (1, o_iload 1), (3, o_iflt 55), (1, o_aload 0), (3, o_getf 10 24), (1, o_iload 2), (1, o_iald), (1, o_iload 1), (3, o_iceq 55), (1, o_aload 0), (3, o_getf 10 25), (1, o_iload 2), (1, o_iald), (1, o_iload 1), (3, o_iceq 55), (1, o_aload 0), (1, o_aload 0), (3, o_getf 10 23), (1, o_iload 2), (1, o_iald), (1, o_iload 1), (3, o_callR (o_call0 (T_Mo_isAbout 1) 3) 10 3)]
def b_Mo_touches_52 (g : GG) : Blk := [(3, o_ifeq 59)]
def b_Mo_touches_55 (g : GG) : Blk := [(1, o_push (.int 1)), (3, o_goto 60)]
def b_Mo_touches_59 (g : GG) : Blk := [(1, o_push (.int 0))]
def b_Mo_touches_60 (g : GG) : Blk := [(1, o_ior), (1, o_zast), (3, o_iinc 2 1), (3, o_goto 2)]
def b_Mo_touches_68 (g : GG) : Blk := [(1, o_vret)]
theorem okb_Mo_touches_0 (g : GG) (l : Launch) (hst : l.stackTraces = false) : BlkOk (m_Mo_touches g l) 0 (b_Mo_touches_0 g) := 
  ⟨ok_iconst (by decide) (by decide +kernel : decode cX9_touches 0 = .ok (.iconst 0, 1)),
  ⟨ok_istore_n rfl (Nat.le_of_ble_eq_true rfl) (by decide +kernel : decode cX9_touches 1 = .ok (.istore_n 2, 1)), trivial⟩⟩
theorem okb_Mo_touches_2 (g : GG) (l : Launch) (hst : l.stackTraces = false) : BlkOk (m_Mo_touches g l) 2 (b_Mo_touches_2 g) := 
  ⟨ok_iload_n (by decide +kernel : decode cX9_touches 2 = .ok (.iload_n 2, 1)) rfl,
  ⟨ok_aload_n (by decide +kernel : decode cX9_touches 3 = .ok (.aload_n 0, 1)) rfl,
  ⟨ok_getf cls_10 (Nat.le_of_ble_eq_true rfl) tw_1262 rfl (by decide +kernel : decode cX9_touches 4 = .ok (.getfield 227, 3)),
  ⟨ok_icge (by decide) (by decide +kernel : decode cX9_touches 7 = .ok (.if_icmp .ge 61, 3)),
  ⟨ok_aload_n (by decide +kernel : decode cX9_touches 10 = .ok (.aload_n 0, 1)) rfl,
  ⟨ok_getf cls_10 (Nat.le_of_ble_eq_true rfl) tw_1308 rfl (by decide +kernel : decode cX9_touches 11 = .ok (.getfield 133, 3)),
  ⟨ok_iload_n (by decide +kernel : decode cX9_touches 14 = .ok (.iload_n 2, 1)) rfl,
  ⟨ok_dup2 (by decide +kernel : decode cX9_touches 15 = .ok (.dup2, 1)),
  ⟨ok_zald (by decide +kernel : decode cX9_touches 16 = .ok (.baload, 1)),
  ⟨ok_iload_n (by decide +kernel : decode cX9_touches 17 = .ok (.iload_n 1, 1)) rfl,
  ⟨ok_iflt (by decide) (by decide +kernel : decode cX9_touches 18 = .ok (.ifCond .lt 37, 3)),
  ⟨ok_aload_n (by decide +kernel : decode cX9_touches 21 = .ok (.aload_n 0, 1)) rfl,
  ⟨ok_getf cls_10 (Nat.le_of_ble_eq_true rfl) tw_1282 rfl (by decide +kernel : decode cX9_touches 22 = .ok (.getfield 66, 3)),
  ⟨ok_iload_n (by decide +kernel : decode cX9_touches 25 = .ok (.iload_n 2, 1)) rfl,
  ⟨ok_iald (by decide +kernel : decode cX9_touches 26 = .ok (.iaload, 1)),
  ⟨ok_iload_n (by decide +kernel : decode cX9_touches 27 = .ok (.iload_n 1, 1)) rfl,
  ⟨ok_iceq (by decide) (by decide +kernel : decode cX9_touches 28 = .ok (.if_icmp .eq 27, 3)),
  ⟨ok_aload_n (by decide +kernel : decode cX9_touches 31 = .ok (.aload_n 0, 1)) rfl,
  ⟨ok_getf cls_10 (Nat.le_of_ble_eq_true rfl) tw_1283 rfl (by decide +kernel : decode cX9_touches 32 = .ok (.getfield 69, 3)),
  ⟨ok_iload_n (by decide +kernel : decode cX9_touches 35 = .ok (.iload_n 2, 1)) rfl,
  ⟨ok_iald (by decide +kernel : decode cX9_touches 36 = .ok (.iaload, 1)),
  ⟨ok_iload_n (by decide +kernel : decode cX9_touches 37 = .ok (.iload_n 1, 1)) rfl,
  ⟨ok_iceq (by decide) (by decide +kernel : decode cX9_touches 38 = .ok (.if_icmp .eq 17, 3)),
  ⟨ok_aload_n (by decide +kernel : decode cX9_touches 41 = .ok (.aload_n 0, 1)) rfl,
  ⟨ok_aload_n (by decide +kernel : decode cX9_touches 42 = .ok (.aload_n 0, 1)) rfl,
  ⟨ok_getf cls_10 (Nat.le_of_ble_eq_true rfl) tw_1281 rfl (by decide +kernel : decode cX9_touches 43 = .ok (.getfield 63, 3)),
  ⟨ok_iload_n (by decide +kernel : decode cX9_touches 46 = .ok (.iload_n 2, 1)) rfl,
  ⟨ok_iald (by decide +kernel : decode cX9_touches 47 = .ok (.iaload, 1)),
  ⟨ok_iload_n (by decide +kernel : decode cX9_touches 48 = .ok (.iload_n 1, 1)) rfl,
  ⟨(ok_callV (k := 2) cls_10 (s_Mo_isAbout 1 g l hst) (Nat.le_of_ble_eq_true rfl) (Nat.le_of_ble_eq_true rfl) rfl rfl tw_1442 tw_1444 ts_46 tw_9 tw_1445 ⟨by decide, by decide, by decide⟩ (by decide +kernel : decode cX9_touches 49 = .ok (.invokevirtual 259, 3))).mono callR0_of, trivial⟩⟩⟩⟩⟩⟩⟩⟩⟩⟩⟩⟩⟩⟩⟩⟩⟩⟩⟩⟩⟩⟩⟩⟩⟩⟩⟩⟩⟩⟩
theorem okb_Mo_touches_52 (g : GG) (l : Launch) (hst : l.stackTraces = false) : BlkOk (m_Mo_touches g l) 52 (b_Mo_touches_52 g) := 
  ⟨ok_ifeq (by decide) (by decide +kernel : decode cX9_touches 52 = .ok (.ifCond .eq 7, 3)), trivial⟩
theorem okb_Mo_touches_55 (g : GG) (l : Launch) (hst : l.stackTraces = false) : BlkOk (m_Mo_touches g l) 55 (b_Mo_touches_55 g) := 
  ⟨ok_iconst (by decide) (by decide +kernel : decode cX9_touches 55 = .ok (.iconst 1, 1)),
  ⟨ok_goto (by decide) (by decide +kernel : decode cX9_touches 56 = .ok (.goto 4, 3)), trivial⟩⟩
theorem okb_Mo_touches_59 (g : GG) (l : Launch) (hst : l.stackTraces = false) : BlkOk (m_Mo_touches g l) 59 (b_Mo_touches_59 g) := 
  ⟨ok_iconst (by decide) (by decide +kernel : decode cX9_touches 59 = .ok (.iconst 0, 1)), trivial⟩
theorem okb_Mo_touches_60 (g : GG) (l : Launch) (hst : l.stackTraces = false) : BlkOk (m_Mo_touches g l) 60 (b_Mo_touches_60 g) := 
  ⟨ok_ior (by decide +kernel : decode cX9_touches 60 = .ok (.ior, 1)),
  ⟨ok_zast (by decide +kernel : decode cX9_touches 61 = .ok (.bastore, 1)),
  ⟨ok_iinc (by decide) (Nat.le_of_ble_eq_true rfl) (by decide +kernel : decode cX9_touches 62 = .ok (.iinc 2 1, 3)),
  ⟨ok_goto (by decide) (by decide +kernel : decode cX9_touches 65 = .ok (.goto (-63), 3)), trivial⟩⟩⟩⟩
theorem okb_Mo_touches_68 (g : GG) (l : Launch) (hst : l.stackTraces = false) : BlkOk (m_Mo_touches g l) 68 (b_Mo_touches_68 g) := 
  ⟨ok_vret rfl (by decide +kernel : decode cX9_touches 68 = .ok (.return_, 1)), trivial⟩
def k_Mo_touches (g : GG) : List (Nat × Blk) := [(0, b_Mo_touches_0 g), (2, b_Mo_touches_2 g), (52, b_Mo_touches_52 g), (55, b_Mo_touches_55 g), (59, b_Mo_touches_59 g), (60, b_Mo_touches_60 g), (68, b_Mo_touches_68 g)]
theorem ok_Mo_touches (g : GG) (l : Launch) (hst : l.stackTraces = false) : ∀ b ∈ k_Mo_touches g, BlkOk (m_Mo_touches g l) b.1 b.2 := List.forall_mem_cons.mpr ⟨okb_Mo_touches_0 g l hst, List.forall_mem_cons.mpr ⟨okb_Mo_touches_2 g l hst, List.forall_mem_cons.mpr ⟨okb_Mo_touches_52 g l hst, List.forall_mem_cons.mpr ⟨okb_Mo_touches_55 g l hst, List.forall_mem_cons.mpr ⟨okb_Mo_touches_59 g l hst, List.forall_mem_cons.mpr ⟨okb_Mo_touches_60 g l hst, List.forall_mem_cons.mpr ⟨okb_Mo_touches_68 g l hst, fun _ h => by cases h⟩⟩⟩⟩⟩⟩⟩
def i_Mo_touches (g : GG) : List (Nat × Blk) := [(55, b_Mo_touches_55 g), (59, b_Mo_touches_59 g), (60, b_Mo_touches_60 g), (68, b_Mo_touches_68 g)]
theorem is_Mo_touches (g : GG) : ∀ x ∈ i_Mo_touches g, x ∈ k_Mo_touches g := sub_at [3, 4, 5, 6] rfl
set_option maxHeartbeats 4000000 in
theorem s_Mo_touches (g : GG) (l : Launch) (hst : l.stackTraces = false) : Snd yX9_touches (m_Mo_touches g l) 0 0 T_Mo_touches := by
  refine snd_of (plainFor_of_name (by decide)) rfl (fun h => by first | rfl | cases h) rfl hst (k_Mo_touches g) (ok_Mo_touches g l hst) ?_
  rintro as f Q X ⟨f0, ad, cm, cl, col, rfl, hM, hp, hq⟩
  refine ⟨[some (.ref (ad 0)), some (.int col), none], rfl, Nat.le_of_ble_eq_true rfl, fun B run => ?_⟩
  obtain ⟨hF, ⟨S, hS, hS2⟩, hO⟩ := hp
  rw [tchC, hS2, nn_nI (by omega)] at hq
  rw [hS2, nn_nI (by omega)] at hO
  have loop : ∀ n k f, k + n = S → MR f0 f ad (rowU cm 50 0 (tchF cm col) k) cl → B 2 [some (.ref (ad 0)), some (.int col), some (.int (nI k))] [] f 0 0 := by
    intro n
    induction n with
    | zero =>
      intro k f e hM
      obtain rfl : k = S := e
      repeat (first | exact hq _ hM | refine i_Mo_isAbout_ hM (by (repeat' (first | assumption | omega | apply And.intro | rfl))) fun f hM => ?_ | (refine run _ _ (i_Mo_touches g) rfl (is_Mo_touches g) _ _ _ _ _ ?_; simp (disch := omega) only [hS2, Int32.le_refl, ↓hobj_c hM.obj, mf_len, mf_4, mf_23, ↓hAI_c (hM.ar 23 rfl), mf_24, ↓hAI_c (hM.ar 24 rfl), mf_25, ↓hAI_c (hM.ar 25 rfl), mf_50, ↓hAI_c (hM.ar 50 rfl), eq_self, nI_dec, ixE, nI_4m, nI_16m, nI_10m, nI_2m, nI_add, nI_1, nI_p2, nI_p3, nI_pred, c3_n, c3_s, c3_i, upd_s, upd_n, rowU_n, rowU_ge, true_imp_iff, false_imp_iff, not_true_eq_false, not_false_eq_true, b2i_t, b2i_f, i32_10, i32_00, i32_11, ite_true_I, false_and, and_false, true_and, and_true, or_true, true_or, false_or, or_false, ↓i_Mo_touches, ↓b_Mo_touches_0, ↓b_Mo_touches_2, ↓b_Mo_touches_52, ↓b_Mo_touches_55, ↓b_Mo_touches_59, ↓b_Mo_touches_60, ↓b_Mo_touches_68, ↓wpL, ↓wpI, Nat.reduceBEq, cond_true, cond_false, lget, lset, lclr, fget, fset, ctake, cdrop, c1, Nat.reduceAdd, ↓o_iadd, ↓o_isub, ↓o_imul, ↓o_iand, ↓o_ior, ↓o_ixor, ↓o_ishl, ↓o_ishr, ↓o_iushr, ↓o_idiv, ↓o_irem, ↓o_ineg, ↓o_ladd, ↓o_lcmp, ↓o_i2l, ↓o_i2c, ↓o_i2d, ↓o_i2f, ↓o_l2f, ↓o_f2d, ↓o_fdiv, ↓o_ddiv, ↓o_dcmp_l, ↓o_dcmp_g, ↓o_fcmp_l, ↓o_fcmp_g, ↓o_push, ↓o_iload, ↓o_fload, ↓o_dload, ↓o_aload, ↓o_istore, ↓o_fstore, ↓o_astore, ↓o_iinc, ↓o_ifeq, ↓o_ifne, ↓o_iflt, ↓o_ifge, ↓o_ifgt, ↓o_ifle, ↓o_iceq, ↓o_icne, ↓o_iclt, ↓o_icge, ↓o_icgt, ↓o_icle, ↓o_goto, ↓o_dup, ↓o_pop, ↓o_dup_x1, ↓o_dup2, ↓o_getf, ↓o_putI, ↓o_putJ, ↓o_putC, ↓o_putR, ↓o_iald, ↓o_zald, ↓o_cald, ↓o_lald, ↓o_dald, ↓o_iast, ↓o_zast, ↓o_cast, ↓o_last, ↓o_dast, ↓o_aald, ↓o_alen, ↓o_throw, ↓o_iret, ↓o_zret, ↓o_cret, ↓o_aret, ↓o_lret, ↓o_fret, ↓o_dret, ↓o_vret, ↓o_new, ↓o_newarr, ↓o_pop1, ↓o_scald, ↓o_salen, ↓o_call, ↓o_callV, ↓o_callX, ↓o_callI, ↓o_call0, ↓o_callR, List.reverse_cons, List.reverse_nil, List.nil_append, List.cons_append, Option.toList_some, Option.toList_none, List.length_cons, List.length_nil, true_and, and_true, true_or, or_true, Nat.reduceLeDiff, Nat.reduceLT, Nat.zero_le, List.append_nil, if_pos, Nat.reduceLeDiff]) | refine ⟨_, rfl, by omega, by omega, ?_⟩ | refine ⟨by (first | exact b2i_01 _ | decide | assumption | (exact or_01 ‹_› (b2i_01 _)) | (simp; done)), ?_⟩ | (intro f e; (first | (have hM := hM.qa 23 rfl e; clear e) | (have hM := hM.qa 24 rfl e; clear e) | (have hM := hM.qa 25 rfl e; clear e) | (have hM := hM.qa 50 rfl e; clear e)); try simp (disch := omega) only [hS2, Int32.le_refl, ↓hobj_c hM.obj, mf_len, mf_4, mf_23, ↓hAI_c (hM.ar 23 rfl), mf_24, ↓hAI_c (hM.ar 24 rfl), mf_25, ↓hAI_c (hM.ar 25 rfl), mf_50, ↓hAI_c (hM.ar 50 rfl), eq_self, nI_dec, ixE, nI_4m, nI_16m, nI_10m, nI_2m, nI_add, nI_1, nI_p2, nI_p3, nI_pred, c3_n, c3_s, c3_i, upd_s, upd_n, rowU_n, rowU_ge, true_imp_iff, false_imp_iff, not_true_eq_false, not_false_eq_true, b2i_t, b2i_f, i32_10, i32_00, i32_11, ite_true_I, false_and, and_false, true_and, and_true, or_true, true_or, false_or, or_false, ↓wpL, ↓wpI, Nat.reduceBEq, cond_true, cond_false, lget, lset, lclr, fget, fset, ctake, cdrop, c1, Nat.reduceAdd, ↓o_iadd, ↓o_isub, ↓o_imul, ↓o_iand, ↓o_ior, ↓o_ixor, ↓o_ishl, ↓o_ishr, ↓o_iushr, ↓o_idiv, ↓o_irem, ↓o_ineg, ↓o_ladd, ↓o_lcmp, ↓o_i2l, ↓o_i2c, ↓o_i2d, ↓o_i2f, ↓o_l2f, ↓o_f2d, ↓o_fdiv, ↓o_ddiv, ↓o_dcmp_l, ↓o_dcmp_g, ↓o_fcmp_l, ↓o_fcmp_g, ↓o_push, ↓o_iload, ↓o_fload, ↓o_dload, ↓o_aload, ↓o_istore, ↓o_fstore, ↓o_astore, ↓o_iinc, ↓o_ifeq, ↓o_ifne, ↓o_iflt, ↓o_ifge, ↓o_ifgt, ↓o_ifle, ↓o_iceq, ↓o_icne, ↓o_iclt, ↓o_icge, ↓o_icgt, ↓o_icle, ↓o_goto, ↓o_dup, ↓o_pop, ↓o_dup_x1, ↓o_dup2, ↓o_getf, ↓o_putI, ↓o_putJ, ↓o_putC, ↓o_putR, ↓o_iald, ↓o_zald, ↓o_cald, ↓o_lald, ↓o_dald, ↓o_iast, ↓o_zast, ↓o_cast, ↓o_last, ↓o_dast, ↓o_aald, ↓o_alen, ↓o_throw, ↓o_iret, ↓o_zret, ↓o_cret, ↓o_aret, ↓o_lret, ↓o_fret, ↓o_dret, ↓o_vret, ↓o_new, ↓o_newarr, ↓o_pop1, ↓o_scald, ↓o_salen, ↓o_call, ↓o_callV, ↓o_callX, ↓o_callI, ↓o_call0, ↓o_callR, List.reverse_cons, List.reverse_nil, List.nil_append, List.cons_append, Option.toList_some, Option.toList_none, List.length_cons, List.length_nil, true_and, and_true, true_or, or_true, Nat.reduceLeDiff, Nat.reduceLT, Nat.zero_le, List.append_nil, if_pos, Nat.reduceLeDiff]))
    | succ n ih =>
      intro k f e hM
      obtain ⟨h01, j, hj, e23⟩ := hO k (by omega)
      have hk : ¬ nI S ≤ nI k := nI_ge (by omega) (by omega)
      have hF2 : FOk (rowU cm 50 0 (tchF cm col) k) := hF
      have hab : about (rowU cm 50 0 (tchF cm col) k) col 30 j = about cm col 30 j := about_cg rfl rfl rfl col 30 j
      have hj3 := hF.lt hj
      have hj4 : j < nn (rowU cm 50 0 (tchF cm col) k 3 0 0) := hj
      have hs := rowU_s cm 50 0 (tchF cm col) k
      have e9 : tchF cm col k = cm 50 0 k ||| b2i (decide (col < 0) || decide (cm 24 0 k = col) || decide (cm 25 0 k = col) || about cm col 30 j) := by rw [tchF, tchB, e23, nn_nI (by omega)]
      by_cases c1 : col < 0
      · simp [c1] at e9
        repeat (first | exact hq _ hM | (rw [← e9, hs] at hM; exact ih (k + 1) f (by omega) hM) | refine i_Mo_isAbout_ hM (by (repeat' (first | assumption | omega | apply And.intro | rfl))) fun f hM => ?_ | (refine run _ _ (i_Mo_touches g) rfl (is_Mo_touches g) _ _ _ _ _ ?_; simp (disch := omega) only [hS2, hk, c1, ↓hobj_c hM.obj, mf_len, mf_4, mf_23, ↓hAI_c (hM.ar 23 rfl), mf_24, ↓hAI_c (hM.ar 24 rfl), mf_25, ↓hAI_c (hM.ar 25 rfl), mf_50, ↓hAI_c (hM.ar 50 rfl), eq_self, nI_dec, ixE, nI_4m, nI_16m, nI_10m, nI_2m, nI_add, nI_1, nI_p2, nI_p3, nI_pred, c3_n, c3_s, c3_i, upd_s, upd_n, rowU_n, rowU_ge, true_imp_iff, false_imp_iff, not_true_eq_false, not_false_eq_true, b2i_t, b2i_f, i32_10, i32_00, i32_11, ite_true_I, false_and, and_false, true_and, and_true, or_true, true_or, false_or, or_false, ↓i_Mo_touches, ↓b_Mo_touches_0, ↓b_Mo_touches_2, ↓b_Mo_touches_52, ↓b_Mo_touches_55, ↓b_Mo_touches_59, ↓b_Mo_touches_60, ↓b_Mo_touches_68, ↓wpL, ↓wpI, Nat.reduceBEq, cond_true, cond_false, lget, lset, lclr, fget, fset, ctake, cdrop, c1, Nat.reduceAdd, ↓o_iadd, ↓o_isub, ↓o_imul, ↓o_iand, ↓o_ior, ↓o_ixor, ↓o_ishl, ↓o_ishr, ↓o_iushr, ↓o_idiv, ↓o_irem, ↓o_ineg, ↓o_ladd, ↓o_lcmp, ↓o_i2l, ↓o_i2c, ↓o_i2d, ↓o_i2f, ↓o_l2f, ↓o_f2d, ↓o_fdiv, ↓o_ddiv, ↓o_dcmp_l, ↓o_dcmp_g, ↓o_fcmp_l, ↓o_fcmp_g, ↓o_push, ↓o_iload, ↓o_fload, ↓o_dload, ↓o_aload, ↓o_istore, ↓o_fstore, ↓o_astore, ↓o_iinc, ↓o_ifeq, ↓o_ifne, ↓o_iflt, ↓o_ifge, ↓o_ifgt, ↓o_ifle, ↓o_iceq, ↓o_icne, ↓o_iclt, ↓o_icge, ↓o_icgt, ↓o_icle, ↓o_goto, ↓o_dup, ↓o_pop, ↓o_dup_x1, ↓o_dup2, ↓o_getf, ↓o_putI, ↓o_putJ, ↓o_putC, ↓o_putR, ↓o_iald, ↓o_zald, ↓o_cald, ↓o_lald, ↓o_dald, ↓o_iast, ↓o_zast, ↓o_cast, ↓o_last, ↓o_dast, ↓o_aald, ↓o_alen, ↓o_throw, ↓o_iret, ↓o_zret, ↓o_cret, ↓o_aret, ↓o_lret, ↓o_fret, ↓o_dret, ↓o_vret, ↓o_new, ↓o_newarr, ↓o_pop1, ↓o_scald, ↓o_salen, ↓o_call, ↓o_callV, ↓o_callX, ↓o_callI, ↓o_call0, ↓o_callR, List.reverse_cons, List.reverse_nil, List.nil_append, List.cons_append, Option.toList_some, Option.toList_none, List.length_cons, List.length_nil, true_and, and_true, true_or, or_true, Nat.reduceLeDiff, Nat.reduceLT, Nat.zero_le, List.append_nil, if_pos, Nat.reduceLeDiff]) | refine ⟨_, rfl, by omega, by omega, ?_⟩ | refine ⟨by (first | exact b2i_01 _ | decide | assumption | (exact or_01 ‹_› (b2i_01 _)) | (simp; done)), ?_⟩ | (intro f e; (first | (have hM := hM.qa 23 rfl e; clear e) | (have hM := hM.qa 24 rfl e; clear e) | (have hM := hM.qa 25 rfl e; clear e) | (have hM := hM.qa 50 rfl e; clear e)); try simp (disch := omega) only [hS2, hk, c1, ↓hobj_c hM.obj, mf_len, mf_4, mf_23, ↓hAI_c (hM.ar 23 rfl), mf_24, ↓hAI_c (hM.ar 24 rfl), mf_25, ↓hAI_c (hM.ar 25 rfl), mf_50, ↓hAI_c (hM.ar 50 rfl), eq_self, nI_dec, ixE, nI_4m, nI_16m, nI_10m, nI_2m, nI_add, nI_1, nI_p2, nI_p3, nI_pred, c3_n, c3_s, c3_i, upd_s, upd_n, rowU_n, rowU_ge, true_imp_iff, false_imp_iff, not_true_eq_false, not_false_eq_true, b2i_t, b2i_f, i32_10, i32_00, i32_11, ite_true_I, false_and, and_false, true_and, and_true, or_true, true_or, false_or, or_false, ↓wpL, ↓wpI, Nat.reduceBEq, cond_true, cond_false, lget, lset, lclr, fget, fset, ctake, cdrop, c1, Nat.reduceAdd, ↓o_iadd, ↓o_isub, ↓o_imul, ↓o_iand, ↓o_ior, ↓o_ixor, ↓o_ishl, ↓o_ishr, ↓o_iushr, ↓o_idiv, ↓o_irem, ↓o_ineg, ↓o_ladd, ↓o_lcmp, ↓o_i2l, ↓o_i2c, ↓o_i2d, ↓o_i2f, ↓o_l2f, ↓o_f2d, ↓o_fdiv, ↓o_ddiv, ↓o_dcmp_l, ↓o_dcmp_g, ↓o_fcmp_l, ↓o_fcmp_g, ↓o_push, ↓o_iload, ↓o_fload, ↓o_dload, ↓o_aload, ↓o_istore, ↓o_fstore, ↓o_astore, ↓o_iinc, ↓o_ifeq, ↓o_ifne, ↓o_iflt, ↓o_ifge, ↓o_ifgt, ↓o_ifle, ↓o_iceq, ↓o_icne, ↓o_iclt, ↓o_icge, ↓o_icgt, ↓o_icle, ↓o_goto, ↓o_dup, ↓o_pop, ↓o_dup_x1, ↓o_dup2, ↓o_getf, ↓o_putI, ↓o_putJ, ↓o_putC, ↓o_putR, ↓o_iald, ↓o_zald, ↓o_cald, ↓o_lald, ↓o_dald, ↓o_iast, ↓o_zast, ↓o_cast, ↓o_last, ↓o_dast, ↓o_aald, ↓o_alen, ↓o_throw, ↓o_iret, ↓o_zret, ↓o_cret, ↓o_aret, ↓o_lret, ↓o_fret, ↓o_dret, ↓o_vret, ↓o_new, ↓o_newarr, ↓o_pop1, ↓o_scald, ↓o_salen, ↓o_call, ↓o_callV, ↓o_callX, ↓o_callI, ↓o_call0, ↓o_callR, List.reverse_cons, List.reverse_nil, List.nil_append, List.cons_append, Option.toList_some, Option.toList_none, List.length_cons, List.length_nil, true_and, and_true, true_or, or_true, Nat.reduceLeDiff, Nat.reduceLT, Nat.zero_le, List.append_nil, if_pos, Nat.reduceLeDiff]))
        done
      · done
  repeat (first | exact hq _ hM | exact loop S 0 f (by omega) (by rw [rowU_0]; exact hM) | refine i_Mo_isAbout_ hM (by (repeat' (first | assumption | omega | apply And.intro | rfl))) fun f hM => ?_ | (refine run _ _ (i_Mo_touches g) rfl (is_Mo_touches g) _ _ _ _ _ ?_; simp (disch := omega) only [↓hobj_c hM.obj, mf_len, mf_4, mf_23, ↓hAI_c (hM.ar 23 rfl), mf_24, ↓hAI_c (hM.ar 24 rfl), mf_25, ↓hAI_c (hM.ar 25 rfl), mf_50, ↓hAI_c (hM.ar 50 rfl), eq_self, nI_dec, ixE, nI_4m, nI_16m, nI_10m, nI_2m, nI_add, nI_1, nI_p2, nI_p3, nI_pred, c3_n, c3_s, c3_i, upd_s, upd_n, rowU_n, rowU_ge, true_imp_iff, false_imp_iff, not_true_eq_false, not_false_eq_true, b2i_t, b2i_f, i32_10, i32_00, i32_11, ite_true_I, false_and, and_false, true_and, and_true, or_true, true_or, false_or, or_false, ↓i_Mo_touches, ↓b_Mo_touches_0, ↓b_Mo_touches_2, ↓b_Mo_touches_52, ↓b_Mo_touches_55, ↓b_Mo_touches_59, ↓b_Mo_touches_60, ↓b_Mo_touches_68, ↓wpL, ↓wpI, Nat.reduceBEq, cond_true, cond_false, lget, lset, lclr, fget, fset, ctake, cdrop, c1, Nat.reduceAdd, ↓o_iadd, ↓o_isub, ↓o_imul, ↓o_iand, ↓o_ior, ↓o_ixor, ↓o_ishl, ↓o_ishr, ↓o_iushr, ↓o_idiv, ↓o_irem, ↓o_ineg, ↓o_ladd, ↓o_lcmp, ↓o_i2l, ↓o_i2c, ↓o_i2d, ↓o_i2f, ↓o_l2f, ↓o_f2d, ↓o_fdiv, ↓o_ddiv, ↓o_dcmp_l, ↓o_dcmp_g, ↓o_fcmp_l, ↓o_fcmp_g, ↓o_push, ↓o_iload, ↓o_fload, ↓o_dload, ↓o_aload, ↓o_istore, ↓o_fstore, ↓o_astore, ↓o_iinc, ↓o_ifeq, ↓o_ifne, ↓o_iflt, ↓o_ifge, ↓o_ifgt, ↓o_ifle, ↓o_iceq, ↓o_icne, ↓o_iclt, ↓o_icge, ↓o_icgt, ↓o_icle, ↓o_goto, ↓o_dup, ↓o_pop, ↓o_dup_x1, ↓o_dup2, ↓o_getf, ↓o_putI, ↓o_putJ, ↓o_putC, ↓o_putR, ↓o_iald, ↓o_zald, ↓o_cald, ↓o_lald, ↓o_dald, ↓o_iast, ↓o_zast, ↓o_cast, ↓o_last, ↓o_dast, ↓o_aald, ↓o_alen, ↓o_throw, ↓o_iret, ↓o_zret, ↓o_cret, ↓o_aret, ↓o_lret, ↓o_fret, ↓o_dret, ↓o_vret, ↓o_new, ↓o_newarr, ↓o_pop1, ↓o_scald, ↓o_salen, ↓o_call, ↓o_callV, ↓o_callX, ↓o_callI, ↓o_call0, ↓o_callR, List.reverse_cons, List.reverse_nil, List.nil_append, List.cons_append, Option.toList_some, Option.toList_none, List.length_cons, List.length_nil, true_and, and_true, true_or, or_true, Nat.reduceLeDiff, Nat.reduceLT, Nat.zero_le, List.append_nil, if_pos, Nat.reduceLeDiff]) | refine ⟨_, rfl, by omega, by omega, ?_⟩ | refine ⟨by (first | exact b2i_01 _ | decide | assumption | (exact or_01 ‹_› (b2i_01 _)) | (simp; done)), ?_⟩ | (intro f e; (first | (have hM := hM.qa 23 rfl e; clear e) | (have hM := hM.qa 24 rfl e; clear e) | (have hM := hM.qa 25 rfl e; clear e) | (have hM := hM.qa 50 rfl e; clear e)); try simp (disch := omega) only [↓hobj_c hM.obj, mf_len, mf_4, mf_23, ↓hAI_c (hM.ar 23 rfl), mf_24, ↓hAI_c (hM.ar 24 rfl), mf_25, ↓hAI_c (hM.ar 25 rfl), mf_50, ↓hAI_c (hM.ar 50 rfl), eq_self, nI_dec, ixE, nI_4m, nI_16m, nI_10m, nI_2m, nI_add, nI_1, nI_p2, nI_p3, nI_pred, c3_n, c3_s, c3_i, upd_s, upd_n, rowU_n, rowU_ge, true_imp_iff, false_imp_iff, not_true_eq_false, not_false_eq_true, b2i_t, b2i_f, i32_10, i32_00, i32_11, ite_true_I, false_and, and_false, true_and, and_true, or_true, true_or, false_or, or_false, ↓wpL, ↓wpI, Nat.reduceBEq, cond_true, cond_false, lget, lset, lclr, fget, fset, ctake, cdrop, c1, Nat.reduceAdd, ↓o_iadd, ↓o_isub, ↓o_imul, ↓o_iand, ↓o_ior, ↓o_ixor, ↓o_ishl, ↓o_ishr, ↓o_iushr, ↓o_idiv, ↓o_irem, ↓o_ineg, ↓o_ladd, ↓o_lcmp, ↓o_i2l, ↓o_i2c, ↓o_i2d, ↓o_i2f, ↓o_l2f, ↓o_f2d, ↓o_fdiv, ↓o_ddiv, ↓o_dcmp_l, ↓o_dcmp_g, ↓o_fcmp_l, ↓o_fcmp_g, ↓o_push, ↓o_iload, ↓o_fload, ↓o_dload, ↓o_aload, ↓o_istore, ↓o_fstore, ↓o_astore, ↓o_iinc, ↓o_ifeq, ↓o_ifne, ↓o_iflt, ↓o_ifge, ↓o_ifgt, ↓o_ifle, ↓o_iceq, ↓o_icne, ↓o_iclt, ↓o_icge, ↓o_icgt, ↓o_icle, ↓o_goto, ↓o_dup, ↓o_pop, ↓o_dup_x1, ↓o_dup2, ↓o_getf, ↓o_putI, ↓o_putJ, ↓o_putC, ↓o_putR, ↓o_iald, ↓o_zald, ↓o_cald, ↓o_lald, ↓o_dald, ↓o_iast, ↓o_zast, ↓o_cast, ↓o_last, ↓o_dast, ↓o_aald, ↓o_alen, ↓o_throw, ↓o_iret, ↓o_zret, ↓o_cret, ↓o_aret, ↓o_lret, ↓o_fret, ↓o_dret, ↓o_vret, ↓o_new, ↓o_newarr, ↓o_pop1, ↓o_scald, ↓o_salen, ↓o_call, ↓o_callV, ↓o_callX, ↓o_callI, ↓o_call0, ↓o_callR, List.reverse_cons, List.reverse_nil, List.nil_append, List.cons_append, Option.toList_some, Option.toList_none, List.length_cons, List.length_nil, true_and, and_true, true_or, or_true, Nat.reduceLeDiff, Nat.reduceLT, Nat.zero_le, List.append_nil, if_pos, Nat.reduceLeDiff]))

