/-! ===== the reference: small methods ===== -/
def b2i (b : Bool) : Int32 := if b then 1 else 0
theorem b2i_01 (b : Bool) : b2i b = 0 ∨ b2i b = 1 := by cases b <;> simp [b2i]
theorem b2i_0 {b : Bool} : b2i b = 0 ↔ b = false := by cases b <;> simp [b2i]
theorem b2i_t : b2i true = 1 := rfl
theorem b2i_f : b2i false = 0 := rfl
theorem i32_10 : ((1 : Int32) = 0) = False := by simp
theorem i32_00 : ((0 : Int32) = 0) = True := by simp
theorem i32_11 : ((1 : Int32) = 1) = True := by simp
theorem ite_true_I {α : Type} (a b : α) : (if True then a else b) = a := rfl
theorem nI_4m (a : Nat) : 4 * nI a = nI (4 * a) := (Int32.ofNat_mul 4 a).symm
theorem nI_16m (a : Nat) : 16 * nI a = nI (16 * a) := (Int32.ofNat_mul 16 a).symm
theorem nI_10m (a : Nat) : 10 * nI a = nI (10 * a) := (Int32.ofNat_mul 10 a).symm
theorem nI_2m (a : Nat) : 2 * nI a = nI (2 * a) := (Int32.ofNat_mul 2 a).symm
theorem nI_p2 (a : Nat) : nI a + 2 = nI (a + 2) := nI_add a 2
theorem nI_p3 (a : Nat) : nI a + 3 = nI (a + 3) := nI_add a 3
theorem nI_dec (a : Nat) : nI a + -1 = nI a - 1 := (Int32.sub_eq_add_neg _ _).symm
theorem nI_m1 {a : Nat} (h : 0 < a) : nI a - 1 = nI (a - 1) := by
  obtain ⟨b, rfl⟩ := Nat.exists_eq_add_of_lt h
  rw [show 0 + b + 1 = b + 1 by omega, nI_pred]
  rfl
theorem nI_d16 {a : Nat} (h : a < 2147483648) : nI a / 16 = nI (a / 16) := by
  apply Int32.toInt_inj.mp
  rw [Int32.toInt_div, nI_toInt h, nI_toInt (by omega), show (16 : Int32).toInt = 16 from rfl]
  rw [Int.tdiv_eq_ediv_of_nonneg (by omega)]
  rw [Int.bmod_eq_of_le (by omega) (by omega)]
  omega
theorem ixE {a n : Nat} {P : Nat → Prop} (h1 : a < n) (h2 : a < 2147483648) : (∃ j, nI a = nI j ∧ j < n ∧ j < 2147483648 ∧ P j) ↔ P a := by
  constructor
  · rintro ⟨j, e, -, h4, h5⟩
    rw [(nI_eq h2 h4).mp e]
    exact h5
  · exact fun h => ⟨a, rfl, h1, h2, h⟩
/-- a natural number -/
def nn (x : Int32) : Nat := x.toNatClampNeg
theorem nn_nI {n : Nat} (h : n < 2147483648) : nn (nI n) = n := nI_clamp h
def Nb (x : Int32) (b : Nat) : Prop := ∃ n, n ≤ b ∧ x = nI n
theorem Nb_nI {x : Int32} {b : Nat} (h : Nb x b) (hb : b < 2147483648) : x = nI (nn x) ∧ nn x ≤ b := by
  obtain ⟨n, hn, rfl⟩ := h
  rw [nn_nI (by omega)]
  exact ⟨rfl, hn⟩
theorem upd_s (f : Nat → Int32) (j : Nat) (x : Int32) : upd f j x j = x := if_pos rfl
theorem upd_n (f : Nat → Int32) {j j' : Nat} (x : Int32) (h : j' ≠ j) : upd f j x j' = f j' := if_neg h
/-- the first m places of a row are F's -/
def rowU (cm : CM) (k i : Nat) (F : Nat → Int32) (m : Nat) : CM := fun k' => if k' = k then (fun i' => if i' = i then (fun j' => if j' < m then F j' else cm k i j') else cm k i') else cm k'
theorem rowU_0 (cm : CM) (k i : Nat) (F : Nat → Int32) : rowU cm k i F 0 = cm := by
  funext k' i' j'
  by_cases e : k' = k
  · subst e
    by_cases e2 : i' = i
    · subst e2
      simp [rowU]
    · simp [rowU, e2]
  · simp [rowU, e]
theorem rowU_s (cm : CM) (k i : Nat) (F : Nat → Int32) (m : Nat) : c3 (rowU cm k i F m) k i m (F m) = rowU cm k i F (m + 1) := by
  funext k' i' j'
  simp only [rowU, c3]
  by_cases e : k' = k
  · by_cases e2 : i' = i
    · by_cases e3 : j' = m
      · simp [e, e2, e3]
      · by_cases e4 : j' < m
        · simp [e, e2, e3, e4, show j' < m + 1 by omega]
        · simp [e, e2, e3, e4, show ¬ j' < m + 1 by omega]
    · simp [e, e2]
  · simp [e]
theorem rowU_n {cm : CM} {k i k' : Nat} {F : Nat → Int32} {m : Nat} (h : k' ≠ k) : rowU cm k i F m k' = cm k' := if_neg h
theorem rowU_ge {cm : CM} {k i : Nat} {F : Nat → Int32} {m j : Nat} (h : m ≤ j) : rowU cm k i F m k i j = cm k i j := by
  simp [rowU, show ¬ j < m by omega]
theorem rowU_lt {cm : CM} {k i : Nat} {F : Nat → Int32} {m j : Nat} (h : j < m) : rowU cm k i F m k i j = F j := by
  simp [rowU, h]
def b01 (x : Int32) : Prop := x = 0 ∨ x = 1
theorem i110_97 : ((110 : Int32) = 97) = False := by simp
theorem i110_111 : ((110 : Int32) = 111) = False := by simp
theorem i97_110 : ((97 : Int32) = 110) = False := by simp
theorem i111_110 : ((111 : Int32) = 110) = False := by simp
theorem i111_97 : ((111 : Int32) = 97) = False := by simp
theorem or_01 {x y : Int32} (h1 : x = 0 ∨ x = 1) (h2 : y = 0 ∨ y = 1) : (x ||| y) = 0 ∨ (x ||| y) = 1 := by
  rcases h1 with rfl | rfl <;> rcases h2 with rfl | rfl <;> simp
def inR (v lo hi : Int32) : Bool := decide (lo ≤ v) && decide (v ≤ hi)
theorem inR_nI {v : Int32} {m : Nat} (hm : m < 2147483648) : inR v 0 (nI m - 1) = true ↔ ∃ j : Nat, j < m ∧ v = nI j := by
  simp only [inR, Bool.and_eq_true, decide_eq_true_eq]
  constructor
  · rintro ⟨h1, h2⟩
    rcases Nat.eq_zero_or_pos m with rfl | hp
    · exfalso
      have h3 := Int32.le_iff_toInt_le.mp h1
      have h4 := Int32.le_iff_toInt_le.mp h2
      rw [show (nI 0 - 1).toInt = -1 from rfl] at h4
      rw [Int32.toInt_zero] at h3
      omega
    · rw [show m = (m - 1) + 1 by omega, nI_pred] at h2
      obtain ⟨j, hj, rfl⟩ := nI_of2 (nI_toInt (by omega)) (Int32.not_lt.mpr h1) h2
      exact ⟨j, by omega, rfl⟩
  · rintro ⟨j, hj, rfl⟩
    refine ⟨nI_pos' (by omega), ?_⟩
    rw [show m = (m - 1) + 1 by omega, nI_pred]
    exact nI_le (by omega) (by omega)
/-- which exception the latest call threw -/
def thr (cm : CM) (b : Bool) (k : Int32) : CM := c3 cm 49 0 0 (if b then k else 0)
def noCell (cm : CM) (r c : Int32) : Bool := !(inR r 0 (cm 0 0 0 - 1) && inR c 0 3)
def imin (a b : Int32) : Int32 := if b < a then b else a
def imax (a b : Int32) : Int32 := if a < b then b else a
def T_Ma_min : Spec2 := fun as f Q _ => ∃ (a : Int32) (b : Int32), as = [.int a, .int b] ∧ Q (some (.int (imin a b))) f
theorem i_Ma_min_ {a : Int32} {b : Int32} {f : AH} {Q : Option Value → AH → Prop} {X : String → AH → Prop} (h : Q (some (.int (imin a b))) f) : T_Ma_min [.int a, .int b] f Q X := ⟨a, b, rfl, h⟩
abbrev m_Ma_min (g : GG) (l : Launch) : MI := (RJ9, cJ9_min_7cf53, 2, (some .int), [], false, 1, g, l)
def b_Ma_min_0 (g : GG) : Blk := [(1, o_iload 0), (1, o_iload 1), (3, o_icgt 9), (1, o_iload 0), (3, o_goto 10)]
def b_Ma_min_9 (g : GG) : Blk := [(1, o_iload 1)]
def b_Ma_min_10 (g : GG) : Blk := [(1, o_iret)]
set_option maxRecDepth 8000 in
theorem okb_Ma_min_0 (g : GG) (l : Launch) (hst : l.stackTraces = false) : BlkOk (m_Ma_min g l) 0 (b_Ma_min_0 g) := 
  ⟨ok_iload_n (by decide +kernel : decode cJ9_min_7cf53 0 = .ok (.iload_n 0, 1)) rfl,
  ⟨ok_iload_n (by decide +kernel : decode cJ9_min_7cf53 1 = .ok (.iload_n 1, 1)) rfl,
  ⟨ok_icgt (by decide) (by decide +kernel : decode cJ9_min_7cf53 2 = .ok (.if_icmp .gt 7, 3)),
  ⟨ok_iload_n (by decide +kernel : decode cJ9_min_7cf53 5 = .ok (.iload_n 0, 1)) rfl,
  ⟨ok_goto (by decide) (by decide +kernel : decode cJ9_min_7cf53 6 = .ok (.goto 4, 3)), trivial⟩⟩⟩⟩⟩
set_option maxRecDepth 8000 in
theorem okb_Ma_min_9 (g : GG) (l : Launch) (hst : l.stackTraces = false) : BlkOk (m_Ma_min g l) 9 (b_Ma_min_9 g) := 
  ⟨ok_iload_n (by decide +kernel : decode cJ9_min_7cf53 9 = .ok (.iload_n 1, 1)) rfl, trivial⟩
set_option maxRecDepth 8000 in
theorem okb_Ma_min_10 (g : GG) (l : Launch) (hst : l.stackTraces = false) : BlkOk (m_Ma_min g l) 10 (b_Ma_min_10 g) := 
  ⟨ok_iret rfl (by decide +kernel : decode cJ9_min_7cf53 10 = .ok (.ireturn, 1)), trivial⟩
def k_Ma_min (g : GG) : List (Nat × Blk) := [(0, b_Ma_min_0 g), (9, b_Ma_min_9 g), (10, b_Ma_min_10 g)]
theorem ok_Ma_min (g : GG) (l : Launch) (hst : l.stackTraces = false) : ∀ b ∈ k_Ma_min g, BlkOk (m_Ma_min g l) b.1 b.2 := List.forall_mem_cons.mpr ⟨okb_Ma_min_0 g l hst, List.forall_mem_cons.mpr ⟨okb_Ma_min_9 g l hst, List.forall_mem_cons.mpr ⟨okb_Ma_min_10 g l hst, fun _ h => by cases h⟩⟩⟩
def i_Ma_min (g : GG) : List (Nat × Blk) := [(9, b_Ma_min_9 g), (10, b_Ma_min_10 g)]
theorem is_Ma_min (g : GG) : ∀ x ∈ i_Ma_min g, x ∈ k_Ma_min g := sub_at [1, 2] rfl
theorem w_Ma_min_0 (g : GG) (u : Unit) (n : List Unit) (B : Bx) (Q : Option Value → AH → Prop) (X : String → AH → Prop) (lv : LV) (st : List Value) (f : AH) (bc bs : Nat) : wpF (i_Ma_min g) (u :: n) B Q X 0 lv st f bc bs = B 0 lv st f bc bs := (rfl)
theorem w_Ma_min_9 (g : GG) (u : Unit) (n : List Unit) (B : Bx) (Q : Option Value → AH → Prop) (X : String → AH → Prop) (lv : LV) (st : List Value) (f : AH) (bc bs : Nat) : wpF (i_Ma_min g) (u :: n) B Q X 9 lv st f bc bs = wpL (b_Ma_min_9 g) 9 lv st f bc bs (wpF (i_Ma_min g) n B Q X) Q X := (rfl)
theorem w_Ma_min_10 (g : GG) (u : Unit) (n : List Unit) (B : Bx) (Q : Option Value → AH → Prop) (X : String → AH → Prop) (lv : LV) (st : List Value) (f : AH) (bc bs : Nat) : wpF (i_Ma_min g) (u :: n) B Q X 10 lv st f bc bs = wpL (b_Ma_min_10 g) 10 lv st f bc bs (wpF (i_Ma_min g) n B Q X) Q X := (rfl)
set_option maxRecDepth 4000 in
set_option maxHeartbeats 4000000 in
theorem s_Ma_min (g : GG) (l : Launch) (hst : l.stackTraces = false) : Snd yJ9_min_7cf53 (m_Ma_min g l) 0 0 T_Ma_min := by
  refine snd_of (by decide +kernel) rfl (fun h => by first | rfl | cases h) rfl hst (k_Ma_min g) (ok_Ma_min g l hst) ?_
  rintro as f Q X ⟨a, b, rfl, hq⟩
  refine ⟨[some (.int a), some (.int b)], rfl, Nat.le_of_ble_eq_true rfl, fun B run => ?_⟩
  refine run _ _ (i_Ma_min g) [(), (), ()] rfl (is_Ma_min g) _ _ _ _ _ ?_; (try simp only [Option.toList_some, Option.toList_none, List.cons_append, List.nil_append, List.append_nil]); simp -dsimp only [w_Ma_min_0, w_Ma_min_9, w_Ma_min_10, ↓b_Ma_min_0, ↓b_Ma_min_9, ↓b_Ma_min_10, ↓wpL_n, ↓wpL_c, ↓e_iadd, ↓e_isub, ↓e_imul, ↓e_iand, ↓e_ior, ↓e_ixor, ↓e_ishl, ↓e_ishr, ↓e_iushr, ↓e_idiv, ↓e_irem, ↓e_ineg, ↓e_ladd, ↓e_lcmp, ↓e_i2l, ↓e_i2c, ↓e_i2d, ↓e_i2f, ↓e_l2f, ↓e_f2d, ↓e_fdiv, ↓e_ddiv, ↓e_dcmp_l, ↓e_fcmp_l, ↓e_dcmp_g, ↓e_fcmp_g, ↓e_push, ↓e_iload, ↓e_fload, ↓e_dload, ↓e_aload, ↓e_istore, ↓e_fstore, ↓e_astore, ↓e_iinc, ↓e_ifeq, ↓e_iceq, ↓e_ifne, ↓e_icne, ↓e_iflt, ↓e_iclt, ↓e_ifge, ↓e_icge, ↓e_ifgt, ↓e_icgt, ↓e_ifle, ↓e_icle, ↓e_goto, ↓e_dup, ↓e_pop, ↓e_dup_x1, ↓e_dup2, ↓e_getf, ↓e_putI, ↓e_putJ, ↓e_putC, ↓e_putR, ↓e_iald, ↓e_zald, ↓e_cald, ↓e_lald, ↓e_dald, ↓e_iast, ↓e_zast, ↓e_cast, ↓e_last, ↓e_dast, ↓e_aald, ↓e_alen, ↓e_throw, ↓e_iret, ↓e_zret, ↓e_cret, ↓e_aret, ↓e_lret, ↓e_fret, ↓e_dret, ↓e_vret, ↓e_new, ↓e_newarr, ↓e_pop1, ↓e_siald, ↓e_salen, ↓e_call, ↓e_callV, ↓e_callI, ↓e_call0, ↓e_callR, PI_e, PFl_e, PD_e, PR_e, PO_e, PHd_e, PA_e, PA_n, IX_e, IX_0, reduceIte, lget, lset, lclr, fget, ctake, cdrop, c1, Nat.reduceAdd, List.reverse_cons, List.reverse_nil, List.nil_append, List.cons_append, Option.toList_some, Option.toList_none, List.length_cons, List.length_nil, true_and, and_true, true_or, or_true, Nat.reduceLeDiff, Nat.reduceLT, Nat.zero_le, List.append_nil]; try (simp only [ite_and]; simp -dsimp only [w_Ma_min_0, w_Ma_min_9, w_Ma_min_10, ↓b_Ma_min_0, ↓b_Ma_min_9, ↓b_Ma_min_10, ↓wpL_n, ↓wpL_c, ↓e_iadd, ↓e_isub, ↓e_imul, ↓e_iand, ↓e_ior, ↓e_ixor, ↓e_ishl, ↓e_ishr, ↓e_iushr, ↓e_idiv, ↓e_irem, ↓e_ineg, ↓e_ladd, ↓e_lcmp, ↓e_i2l, ↓e_i2c, ↓e_i2d, ↓e_i2f, ↓e_l2f, ↓e_f2d, ↓e_fdiv, ↓e_ddiv, ↓e_dcmp_l, ↓e_fcmp_l, ↓e_dcmp_g, ↓e_fcmp_g, ↓e_push, ↓e_iload, ↓e_fload, ↓e_dload, ↓e_aload, ↓e_istore, ↓e_fstore, ↓e_astore, ↓e_iinc, ↓e_ifeq, ↓e_iceq, ↓e_ifne, ↓e_icne, ↓e_iflt, ↓e_iclt, ↓e_ifge, ↓e_icge, ↓e_ifgt, ↓e_icgt, ↓e_ifle, ↓e_icle, ↓e_goto, ↓e_dup, ↓e_pop, ↓e_dup_x1, ↓e_dup2, ↓e_getf, ↓e_putI, ↓e_putJ, ↓e_putC, ↓e_putR, ↓e_iald, ↓e_zald, ↓e_cald, ↓e_lald, ↓e_dald, ↓e_iast, ↓e_zast, ↓e_cast, ↓e_last, ↓e_dast, ↓e_aald, ↓e_alen, ↓e_throw, ↓e_iret, ↓e_zret, ↓e_cret, ↓e_aret, ↓e_lret, ↓e_fret, ↓e_dret, ↓e_vret, ↓e_new, ↓e_newarr, ↓e_pop1, ↓e_siald, ↓e_salen, ↓e_call, ↓e_callV, ↓e_callI, ↓e_call0, ↓e_callR, PI_e, PFl_e, PD_e, PR_e, PO_e, PHd_e, PA_e, PA_n, IX_e, IX_0, reduceIte, lget, lset, lclr, fget, ctake, cdrop, c1, Nat.reduceAdd, List.reverse_cons, List.reverse_nil, List.nil_append, List.cons_append, Option.toList_some, Option.toList_none, List.length_cons, List.length_nil, true_and, and_true, true_or, or_true, Nat.reduceLeDiff, Nat.reduceLT, Nat.zero_le, List.append_nil])
  by_cases h : b < a <;> simp [h, imin] at hq ⊢ <;> exact hq
def T_Ma_max : Spec2 := fun as f Q _ => ∃ (a : Int32) (b : Int32), as = [.int a, .int b] ∧ Q (some (.int (imax a b))) f
theorem i_Ma_max_ {a : Int32} {b : Int32} {f : AH} {Q : Option Value → AH → Prop} {X : String → AH → Prop} (h : Q (some (.int (imax a b))) f) : T_Ma_max [.int a, .int b] f Q X := ⟨a, b, rfl, h⟩
abbrev m_Ma_max (g : GG) (l : Launch) : MI := (RJ9, cJ9_max_7cf53, 2, (some .int), [], false, 1, g, l)
def b_Ma_max_0 (g : GG) : Blk := [(1, o_iload 0), (1, o_iload 1), (3, o_iclt 9), (1, o_iload 0), (3, o_goto 10)]
def b_Ma_max_9 (g : GG) : Blk := [(1, o_iload 1)]
def b_Ma_max_10 (g : GG) : Blk := [(1, o_iret)]
set_option maxRecDepth 8000 in
theorem okb_Ma_max_0 (g : GG) (l : Launch) (hst : l.stackTraces = false) : BlkOk (m_Ma_max g l) 0 (b_Ma_max_0 g) := 
  ⟨ok_iload_n (by decide +kernel : decode cJ9_max_7cf53 0 = .ok (.iload_n 0, 1)) rfl,
  ⟨ok_iload_n (by decide +kernel : decode cJ9_max_7cf53 1 = .ok (.iload_n 1, 1)) rfl,
  ⟨ok_iclt (by decide) (by decide +kernel : decode cJ9_max_7cf53 2 = .ok (.if_icmp .lt 7, 3)),
  ⟨ok_iload_n (by decide +kernel : decode cJ9_max_7cf53 5 = .ok (.iload_n 0, 1)) rfl,
  ⟨ok_goto (by decide) (by decide +kernel : decode cJ9_max_7cf53 6 = .ok (.goto 4, 3)), trivial⟩⟩⟩⟩⟩
set_option maxRecDepth 8000 in
theorem okb_Ma_max_9 (g : GG) (l : Launch) (hst : l.stackTraces = false) : BlkOk (m_Ma_max g l) 9 (b_Ma_max_9 g) := 
  ⟨ok_iload_n (by decide +kernel : decode cJ9_max_7cf53 9 = .ok (.iload_n 1, 1)) rfl, trivial⟩
set_option maxRecDepth 8000 in
theorem okb_Ma_max_10 (g : GG) (l : Launch) (hst : l.stackTraces = false) : BlkOk (m_Ma_max g l) 10 (b_Ma_max_10 g) := 
  ⟨ok_iret rfl (by decide +kernel : decode cJ9_max_7cf53 10 = .ok (.ireturn, 1)), trivial⟩
def k_Ma_max (g : GG) : List (Nat × Blk) := [(0, b_Ma_max_0 g), (9, b_Ma_max_9 g), (10, b_Ma_max_10 g)]
theorem ok_Ma_max (g : GG) (l : Launch) (hst : l.stackTraces = false) : ∀ b ∈ k_Ma_max g, BlkOk (m_Ma_max g l) b.1 b.2 := List.forall_mem_cons.mpr ⟨okb_Ma_max_0 g l hst, List.forall_mem_cons.mpr ⟨okb_Ma_max_9 g l hst, List.forall_mem_cons.mpr ⟨okb_Ma_max_10 g l hst, fun _ h => by cases h⟩⟩⟩
def i_Ma_max (g : GG) : List (Nat × Blk) := [(9, b_Ma_max_9 g), (10, b_Ma_max_10 g)]
theorem is_Ma_max (g : GG) : ∀ x ∈ i_Ma_max g, x ∈ k_Ma_max g := sub_at [1, 2] rfl
theorem w_Ma_max_0 (g : GG) (u : Unit) (n : List Unit) (B : Bx) (Q : Option Value → AH → Prop) (X : String → AH → Prop) (lv : LV) (st : List Value) (f : AH) (bc bs : Nat) : wpF (i_Ma_max g) (u :: n) B Q X 0 lv st f bc bs = B 0 lv st f bc bs := (rfl)
theorem w_Ma_max_9 (g : GG) (u : Unit) (n : List Unit) (B : Bx) (Q : Option Value → AH → Prop) (X : String → AH → Prop) (lv : LV) (st : List Value) (f : AH) (bc bs : Nat) : wpF (i_Ma_max g) (u :: n) B Q X 9 lv st f bc bs = wpL (b_Ma_max_9 g) 9 lv st f bc bs (wpF (i_Ma_max g) n B Q X) Q X := (rfl)
theorem w_Ma_max_10 (g : GG) (u : Unit) (n : List Unit) (B : Bx) (Q : Option Value → AH → Prop) (X : String → AH → Prop) (lv : LV) (st : List Value) (f : AH) (bc bs : Nat) : wpF (i_Ma_max g) (u :: n) B Q X 10 lv st f bc bs = wpL (b_Ma_max_10 g) 10 lv st f bc bs (wpF (i_Ma_max g) n B Q X) Q X := (rfl)
set_option maxRecDepth 4000 in
set_option maxHeartbeats 4000000 in
theorem s_Ma_max (g : GG) (l : Launch) (hst : l.stackTraces = false) : Snd yJ9_max_7cf53 (m_Ma_max g l) 0 0 T_Ma_max := by
  refine snd_of (by decide +kernel) rfl (fun h => by first | rfl | cases h) rfl hst (k_Ma_max g) (ok_Ma_max g l hst) ?_
  rintro as f Q X ⟨a, b, rfl, hq⟩
  refine ⟨[some (.int a), some (.int b)], rfl, Nat.le_of_ble_eq_true rfl, fun B run => ?_⟩
  refine run _ _ (i_Ma_max g) [(), (), ()] rfl (is_Ma_max g) _ _ _ _ _ ?_; (try simp only [Option.toList_some, Option.toList_none, List.cons_append, List.nil_append, List.append_nil]); simp -dsimp only [w_Ma_max_0, w_Ma_max_9, w_Ma_max_10, ↓b_Ma_max_0, ↓b_Ma_max_9, ↓b_Ma_max_10, ↓wpL_n, ↓wpL_c, ↓e_iadd, ↓e_isub, ↓e_imul, ↓e_iand, ↓e_ior, ↓e_ixor, ↓e_ishl, ↓e_ishr, ↓e_iushr, ↓e_idiv, ↓e_irem, ↓e_ineg, ↓e_ladd, ↓e_lcmp, ↓e_i2l, ↓e_i2c, ↓e_i2d, ↓e_i2f, ↓e_l2f, ↓e_f2d, ↓e_fdiv, ↓e_ddiv, ↓e_dcmp_l, ↓e_fcmp_l, ↓e_dcmp_g, ↓e_fcmp_g, ↓e_push, ↓e_iload, ↓e_fload, ↓e_dload, ↓e_aload, ↓e_istore, ↓e_fstore, ↓e_astore, ↓e_iinc, ↓e_ifeq, ↓e_iceq, ↓e_ifne, ↓e_icne, ↓e_iflt, ↓e_iclt, ↓e_ifge, ↓e_icge, ↓e_ifgt, ↓e_icgt, ↓e_ifle, ↓e_icle, ↓e_goto, ↓e_dup, ↓e_pop, ↓e_dup_x1, ↓e_dup2, ↓e_getf, ↓e_putI, ↓e_putJ, ↓e_putC, ↓e_putR, ↓e_iald, ↓e_zald, ↓e_cald, ↓e_lald, ↓e_dald, ↓e_iast, ↓e_zast, ↓e_cast, ↓e_last, ↓e_dast, ↓e_aald, ↓e_alen, ↓e_throw, ↓e_iret, ↓e_zret, ↓e_cret, ↓e_aret, ↓e_lret, ↓e_fret, ↓e_dret, ↓e_vret, ↓e_new, ↓e_newarr, ↓e_pop1, ↓e_siald, ↓e_salen, ↓e_call, ↓e_callV, ↓e_callI, ↓e_call0, ↓e_callR, PI_e, PFl_e, PD_e, PR_e, PO_e, PHd_e, PA_e, PA_n, IX_e, IX_0, reduceIte, lget, lset, lclr, fget, ctake, cdrop, c1, Nat.reduceAdd, List.reverse_cons, List.reverse_nil, List.nil_append, List.cons_append, Option.toList_some, Option.toList_none, List.length_cons, List.length_nil, true_and, and_true, true_or, or_true, Nat.reduceLeDiff, Nat.reduceLT, Nat.zero_le, List.append_nil]; try (simp only [ite_and]; simp -dsimp only [w_Ma_max_0, w_Ma_max_9, w_Ma_max_10, ↓b_Ma_max_0, ↓b_Ma_max_9, ↓b_Ma_max_10, ↓wpL_n, ↓wpL_c, ↓e_iadd, ↓e_isub, ↓e_imul, ↓e_iand, ↓e_ior, ↓e_ixor, ↓e_ishl, ↓e_ishr, ↓e_iushr, ↓e_idiv, ↓e_irem, ↓e_ineg, ↓e_ladd, ↓e_lcmp, ↓e_i2l, ↓e_i2c, ↓e_i2d, ↓e_i2f, ↓e_l2f, ↓e_f2d, ↓e_fdiv, ↓e_ddiv, ↓e_dcmp_l, ↓e_fcmp_l, ↓e_dcmp_g, ↓e_fcmp_g, ↓e_push, ↓e_iload, ↓e_fload, ↓e_dload, ↓e_aload, ↓e_istore, ↓e_fstore, ↓e_astore, ↓e_iinc, ↓e_ifeq, ↓e_iceq, ↓e_ifne, ↓e_icne, ↓e_iflt, ↓e_iclt, ↓e_ifge, ↓e_icge, ↓e_ifgt, ↓e_icgt, ↓e_ifle, ↓e_icle, ↓e_goto, ↓e_dup, ↓e_pop, ↓e_dup_x1, ↓e_dup2, ↓e_getf, ↓e_putI, ↓e_putJ, ↓e_putC, ↓e_putR, ↓e_iald, ↓e_zald, ↓e_cald, ↓e_lald, ↓e_dald, ↓e_iast, ↓e_zast, ↓e_cast, ↓e_last, ↓e_dast, ↓e_aald, ↓e_alen, ↓e_throw, ↓e_iret, ↓e_zret, ↓e_cret, ↓e_aret, ↓e_lret, ↓e_fret, ↓e_dret, ↓e_vret, ↓e_new, ↓e_newarr, ↓e_pop1, ↓e_siald, ↓e_salen, ↓e_call, ↓e_callV, ↓e_callI, ↓e_call0, ↓e_callR, PI_e, PFl_e, PD_e, PR_e, PO_e, PHd_e, PA_e, PA_n, IX_e, IX_0, reduceIte, lget, lset, lclr, fget, ctake, cdrop, c1, Nat.reduceAdd, List.reverse_cons, List.reverse_nil, List.nil_append, List.cons_append, Option.toList_some, Option.toList_none, List.length_cons, List.length_nil, true_and, and_true, true_or, or_true, Nat.reduceLeDiff, Nat.reduceLT, Nat.zero_le, List.append_nil])
  by_cases h : a < b <;> simp [h, imax] at hq ⊢ <;> exact hq
def flm (x y : Int32) : Int32 := if (x ^^^ y) < 0 ∧ ¬ (x - x / y * y = 0) then (x - x / y * y) + y else x - x / y * y
def T_Ma_floorMod : Spec2 := fun as f Q _ => ∃ (x : Int32) (y : Int32), as = [.int x, .int y] ∧ (¬ y = 0) ∧ Q (some (.int (flm x y))) f
theorem i_Ma_floorMod_ {x : Int32} {y : Int32} {f : AH} {Q : Option Value → AH → Prop} {X : String → AH → Prop} (hp : ¬ y = 0) (h : Q (some (.int (flm x y))) f) : T_Ma_floorMod [.int x, .int y] f Q X := ⟨x, y, rfl, hp, h⟩
abbrev m_Ma_floorMod (g : GG) (l : Launch) : MI := (RJ9, cJ9_floorMod_7cf53, 3, (some .int), [], false, 1, g, l)
def b_Ma_floorMod_0 (g : GG) : Blk := [(1, o_iload 0), (1, o_iload 1), (1, o_irem), (1, o_istore 2), (1, o_iload 0), (1, o_iload 1), (1, o_ixor), (3, o_ifge 18), (1, o_iload 2), (3, o_ifeq 18), (1, o_iload 2), (1, o_iload 1), (1, o_iadd), (1, o_iret)]
def b_Ma_floorMod_18 (g : GG) : Blk := [(1, o_iload 2), (1, o_iret)]
set_option maxRecDepth 8000 in
theorem okb_Ma_floorMod_0 (g : GG) (l : Launch) (hst : l.stackTraces = false) : BlkOk (m_Ma_floorMod g l) 0 (b_Ma_floorMod_0 g) := 
  ⟨ok_iload_n (by decide +kernel : decode cJ9_floorMod_7cf53 0 = .ok (.iload_n 0, 1)) rfl,
  ⟨ok_iload_n (by decide +kernel : decode cJ9_floorMod_7cf53 1 = .ok (.iload_n 1, 1)) rfl,
  ⟨ok_irem (by decide +kernel : decode cJ9_floorMod_7cf53 2 = .ok (.irem, 1)),
  ⟨ok_istore_n rfl (Nat.le_of_ble_eq_true rfl) (by decide +kernel : decode cJ9_floorMod_7cf53 3 = .ok (.istore_n 2, 1)),
  ⟨ok_iload_n (by decide +kernel : decode cJ9_floorMod_7cf53 4 = .ok (.iload_n 0, 1)) rfl,
  ⟨ok_iload_n (by decide +kernel : decode cJ9_floorMod_7cf53 5 = .ok (.iload_n 1, 1)) rfl,
  ⟨ok_ixor (by decide +kernel : decode cJ9_floorMod_7cf53 6 = .ok (.ixor, 1)),
  ⟨ok_ifge (by decide) (by decide +kernel : decode cJ9_floorMod_7cf53 7 = .ok (.ifCond .ge 11, 3)),
  ⟨ok_iload_n (by decide +kernel : decode cJ9_floorMod_7cf53 10 = .ok (.iload_n 2, 1)) rfl,
  ⟨ok_ifeq (by decide) (by decide +kernel : decode cJ9_floorMod_7cf53 11 = .ok (.ifCond .eq 7, 3)),
  ⟨ok_iload_n (by decide +kernel : decode cJ9_floorMod_7cf53 14 = .ok (.iload_n 2, 1)) rfl,
  ⟨ok_iload_n (by decide +kernel : decode cJ9_floorMod_7cf53 15 = .ok (.iload_n 1, 1)) rfl,
  ⟨ok_iadd (by decide +kernel : decode cJ9_floorMod_7cf53 16 = .ok (.iadd, 1)),
  ⟨ok_iret rfl (by decide +kernel : decode cJ9_floorMod_7cf53 17 = .ok (.ireturn, 1)), trivial⟩⟩⟩⟩⟩⟩⟩⟩⟩⟩⟩⟩⟩⟩
set_option maxRecDepth 8000 in
theorem okb_Ma_floorMod_18 (g : GG) (l : Launch) (hst : l.stackTraces = false) : BlkOk (m_Ma_floorMod g l) 18 (b_Ma_floorMod_18 g) := 
  ⟨ok_iload_n (by decide +kernel : decode cJ9_floorMod_7cf53 18 = .ok (.iload_n 2, 1)) rfl,
  ⟨ok_iret rfl (by decide +kernel : decode cJ9_floorMod_7cf53 19 = .ok (.ireturn, 1)), trivial⟩⟩
def k_Ma_floorMod (g : GG) : List (Nat × Blk) := [(0, b_Ma_floorMod_0 g), (18, b_Ma_floorMod_18 g)]
theorem ok_Ma_floorMod (g : GG) (l : Launch) (hst : l.stackTraces = false) : ∀ b ∈ k_Ma_floorMod g, BlkOk (m_Ma_floorMod g l) b.1 b.2 := List.forall_mem_cons.mpr ⟨okb_Ma_floorMod_0 g l hst, List.forall_mem_cons.mpr ⟨okb_Ma_floorMod_18 g l hst, fun _ h => by cases h⟩⟩
def i_Ma_floorMod (g : GG) : List (Nat × Blk) := [(18, b_Ma_floorMod_18 g)]
theorem is_Ma_floorMod (g : GG) : ∀ x ∈ i_Ma_floorMod g, x ∈ k_Ma_floorMod g := sub_at [1] rfl
theorem w_Ma_floorMod_0 (g : GG) (u : Unit) (n : List Unit) (B : Bx) (Q : Option Value → AH → Prop) (X : String → AH → Prop) (lv : LV) (st : List Value) (f : AH) (bc bs : Nat) : wpF (i_Ma_floorMod g) (u :: n) B Q X 0 lv st f bc bs = B 0 lv st f bc bs := (rfl)
theorem w_Ma_floorMod_18 (g : GG) (u : Unit) (n : List Unit) (B : Bx) (Q : Option Value → AH → Prop) (X : String → AH → Prop) (lv : LV) (st : List Value) (f : AH) (bc bs : Nat) : wpF (i_Ma_floorMod g) (u :: n) B Q X 18 lv st f bc bs = wpL (b_Ma_floorMod_18 g) 18 lv st f bc bs (wpF (i_Ma_floorMod g) n B Q X) Q X := (rfl)
set_option maxRecDepth 4000 in
set_option maxHeartbeats 4000000 in
theorem s_Ma_floorMod (g : GG) (l : Launch) (hst : l.stackTraces = false) : Snd yJ9_floorMod_7cf53 (m_Ma_floorMod g l) 0 0 T_Ma_floorMod := by
  refine snd_of (by decide +kernel) rfl (fun h => by first | rfl | cases h) rfl hst (k_Ma_floorMod g) (ok_Ma_floorMod g l hst) ?_
  rintro as f Q X ⟨x, y, rfl, hp, hq⟩
  refine ⟨[some (.int x), some (.int y), none], rfl, Nat.le_of_ble_eq_true rfl, fun B run => ?_⟩
  by_cases h : (x ^^^ y) < 0
  · by_cases h2 : x - x / y * y = 0
    · rw [flm, if_neg (fun q => q.2 h2), h2] at hq
      repeat (first | exact hq | (refine run _ _ (i_Ma_floorMod g) [(), ()] rfl (is_Ma_floorMod g) _ _ _ _ _ ?_; (try simp only [Option.toList_some, Option.toList_none, List.cons_append, List.nil_append, List.append_nil]); simp (disch := omega) only [hp, Int32.not_le.mpr h, h2, eq_self, nI_dec, ixE, nI_4m, nI_16m, nI_10m, nI_2m, nI_add, nI_1, nI_p2, nI_p3, nI_pred, c3_n, c3_s, c3_i, upd_s, upd_n, rowU_n, rowU_ge, true_imp_iff, false_imp_iff, not_true_eq_false, not_false_eq_true, b2i_t, b2i_f, i32_10, i32_00, i32_11, ite_true_I, false_and, and_false, true_and, and_true, or_true, true_or, false_or, or_false, w_Ma_floorMod_0, w_Ma_floorMod_18, ↓b_Ma_floorMod_0, ↓b_Ma_floorMod_18, ↓wpL_n, ↓wpL_c, ↓e_iadd, ↓e_isub, ↓e_imul, ↓e_iand, ↓e_ior, ↓e_ixor, ↓e_ishl, ↓e_ishr, ↓e_iushr, ↓e_idiv, ↓e_irem, ↓e_ineg, ↓e_ladd, ↓e_lcmp, ↓e_i2l, ↓e_i2c, ↓e_i2d, ↓e_i2f, ↓e_l2f, ↓e_f2d, ↓e_fdiv, ↓e_ddiv, ↓e_dcmp_l, ↓e_fcmp_l, ↓e_dcmp_g, ↓e_fcmp_g, ↓e_push, ↓e_iload, ↓e_fload, ↓e_dload, ↓e_aload, ↓e_istore, ↓e_fstore, ↓e_astore, ↓e_iinc, ↓e_ifeq, ↓e_iceq, ↓e_ifne, ↓e_icne, ↓e_iflt, ↓e_iclt, ↓e_ifge, ↓e_icge, ↓e_ifgt, ↓e_icgt, ↓e_ifle, ↓e_icle, ↓e_goto, ↓e_dup, ↓e_pop, ↓e_dup_x1, ↓e_dup2, ↓e_getf, ↓e_putI, ↓e_putJ, ↓e_putC, ↓e_putR, ↓e_iald, ↓e_zald, ↓e_cald, ↓e_lald, ↓e_dald, ↓e_iast, ↓e_zast, ↓e_cast, ↓e_last, ↓e_dast, ↓e_aald, ↓e_alen, ↓e_throw, ↓e_iret, ↓e_zret, ↓e_cret, ↓e_aret, ↓e_lret, ↓e_fret, ↓e_dret, ↓e_vret, ↓e_new, ↓e_newarr, ↓e_pop1, ↓e_siald, ↓e_salen, ↓e_call, ↓e_callV, ↓e_callI, ↓e_call0, ↓e_callR, PI_e, PFl_e, PD_e, PR_e, PO_e, PHd_e, PA_e, PA_n, IX_e, IX_0, reduceIte, lget, lset, lclr, fget, ctake, cdrop, c1, Nat.reduceAdd, List.reverse_cons, List.reverse_nil, List.nil_append, List.cons_append, Option.toList_some, Option.toList_none, List.length_cons, List.length_nil, true_and, and_true, true_or, or_true, Nat.reduceLeDiff, Nat.reduceLT, Nat.zero_le, List.append_nil]) | refine ⟨_, rfl, by omega, by omega, ?_⟩ | (refine And.intro ?_ ?_; focus (first | exact b2i_01 _ | assumption | decide | (simp; done))))
    · rw [flm, if_pos ⟨h, h2⟩] at hq
      repeat (first | exact hq | (refine run _ _ (i_Ma_floorMod g) [(), ()] rfl (is_Ma_floorMod g) _ _ _ _ _ ?_; (try simp only [Option.toList_some, Option.toList_none, List.cons_append, List.nil_append, List.append_nil]); simp (disch := omega) only [hp, Int32.not_le.mpr h, h2, eq_self, nI_dec, ixE, nI_4m, nI_16m, nI_10m, nI_2m, nI_add, nI_1, nI_p2, nI_p3, nI_pred, c3_n, c3_s, c3_i, upd_s, upd_n, rowU_n, rowU_ge, true_imp_iff, false_imp_iff, not_true_eq_false, not_false_eq_true, b2i_t, b2i_f, i32_10, i32_00, i32_11, ite_true_I, false_and, and_false, true_and, and_true, or_true, true_or, false_or, or_false, w_Ma_floorMod_0, w_Ma_floorMod_18, ↓b_Ma_floorMod_0, ↓b_Ma_floorMod_18, ↓wpL_n, ↓wpL_c, ↓e_iadd, ↓e_isub, ↓e_imul, ↓e_iand, ↓e_ior, ↓e_ixor, ↓e_ishl, ↓e_ishr, ↓e_iushr, ↓e_idiv, ↓e_irem, ↓e_ineg, ↓e_ladd, ↓e_lcmp, ↓e_i2l, ↓e_i2c, ↓e_i2d, ↓e_i2f, ↓e_l2f, ↓e_f2d, ↓e_fdiv, ↓e_ddiv, ↓e_dcmp_l, ↓e_fcmp_l, ↓e_dcmp_g, ↓e_fcmp_g, ↓e_push, ↓e_iload, ↓e_fload, ↓e_dload, ↓e_aload, ↓e_istore, ↓e_fstore, ↓e_astore, ↓e_iinc, ↓e_ifeq, ↓e_iceq, ↓e_ifne, ↓e_icne, ↓e_iflt, ↓e_iclt, ↓e_ifge, ↓e_icge, ↓e_ifgt, ↓e_icgt, ↓e_ifle, ↓e_icle, ↓e_goto, ↓e_dup, ↓e_pop, ↓e_dup_x1, ↓e_dup2, ↓e_getf, ↓e_putI, ↓e_putJ, ↓e_putC, ↓e_putR, ↓e_iald, ↓e_zald, ↓e_cald, ↓e_lald, ↓e_dald, ↓e_iast, ↓e_zast, ↓e_cast, ↓e_last, ↓e_dast, ↓e_aald, ↓e_alen, ↓e_throw, ↓e_iret, ↓e_zret, ↓e_cret, ↓e_aret, ↓e_lret, ↓e_fret, ↓e_dret, ↓e_vret, ↓e_new, ↓e_newarr, ↓e_pop1, ↓e_siald, ↓e_salen, ↓e_call, ↓e_callV, ↓e_callI, ↓e_call0, ↓e_callR, PI_e, PFl_e, PD_e, PR_e, PO_e, PHd_e, PA_e, PA_n, IX_e, IX_0, reduceIte, lget, lset, lclr, fget, ctake, cdrop, c1, Nat.reduceAdd, List.reverse_cons, List.reverse_nil, List.nil_append, List.cons_append, Option.toList_some, Option.toList_none, List.length_cons, List.length_nil, true_and, and_true, true_or, or_true, Nat.reduceLeDiff, Nat.reduceLT, Nat.zero_le, List.append_nil]) | refine ⟨_, rfl, by omega, by omega, ?_⟩ | (refine And.intro ?_ ?_; focus (first | exact b2i_01 _ | assumption | decide | (simp; done))))
  · rw [flm, if_neg (fun q => h q.1)] at hq
    repeat (first | exact hq | (refine run _ _ (i_Ma_floorMod g) [(), ()] rfl (is_Ma_floorMod g) _ _ _ _ _ ?_; (try simp only [Option.toList_some, Option.toList_none, List.cons_append, List.nil_append, List.append_nil]); simp (disch := omega) only [hp, Int32.not_lt.mp h, eq_self, nI_dec, ixE, nI_4m, nI_16m, nI_10m, nI_2m, nI_add, nI_1, nI_p2, nI_p3, nI_pred, c3_n, c3_s, c3_i, upd_s, upd_n, rowU_n, rowU_ge, true_imp_iff, false_imp_iff, not_true_eq_false, not_false_eq_true, b2i_t, b2i_f, i32_10, i32_00, i32_11, ite_true_I, false_and, and_false, true_and, and_true, or_true, true_or, false_or, or_false, w_Ma_floorMod_0, w_Ma_floorMod_18, ↓b_Ma_floorMod_0, ↓b_Ma_floorMod_18, ↓wpL_n, ↓wpL_c, ↓e_iadd, ↓e_isub, ↓e_imul, ↓e_iand, ↓e_ior, ↓e_ixor, ↓e_ishl, ↓e_ishr, ↓e_iushr, ↓e_idiv, ↓e_irem, ↓e_ineg, ↓e_ladd, ↓e_lcmp, ↓e_i2l, ↓e_i2c, ↓e_i2d, ↓e_i2f, ↓e_l2f, ↓e_f2d, ↓e_fdiv, ↓e_ddiv, ↓e_dcmp_l, ↓e_fcmp_l, ↓e_dcmp_g, ↓e_fcmp_g, ↓e_push, ↓e_iload, ↓e_fload, ↓e_dload, ↓e_aload, ↓e_istore, ↓e_fstore, ↓e_astore, ↓e_iinc, ↓e_ifeq, ↓e_iceq, ↓e_ifne, ↓e_icne, ↓e_iflt, ↓e_iclt, ↓e_ifge, ↓e_icge, ↓e_ifgt, ↓e_icgt, ↓e_ifle, ↓e_icle, ↓e_goto, ↓e_dup, ↓e_pop, ↓e_dup_x1, ↓e_dup2, ↓e_getf, ↓e_putI, ↓e_putJ, ↓e_putC, ↓e_putR, ↓e_iald, ↓e_zald, ↓e_cald, ↓e_lald, ↓e_dald, ↓e_iast, ↓e_zast, ↓e_cast, ↓e_last, ↓e_dast, ↓e_aald, ↓e_alen, ↓e_throw, ↓e_iret, ↓e_zret, ↓e_cret, ↓e_aret, ↓e_lret, ↓e_fret, ↓e_dret, ↓e_vret, ↓e_new, ↓e_newarr, ↓e_pop1, ↓e_siald, ↓e_salen, ↓e_call, ↓e_callV, ↓e_callI, ↓e_call0, ↓e_callR, PI_e, PFl_e, PD_e, PR_e, PO_e, PHd_e, PA_e, PA_n, IX_e, IX_0, reduceIte, lget, lset, lclr, fget, ctake, cdrop, c1, Nat.reduceAdd, List.reverse_cons, List.reverse_nil, List.nil_append, List.cons_append, Option.toList_some, Option.toList_none, List.length_cons, List.length_nil, true_and, and_true, true_or, or_true, Nat.reduceLeDiff, Nat.reduceLT, Nat.zero_le, List.append_nil]) | refine ⟨_, rfl, by omega, by omega, ?_⟩ | (refine And.intro ?_ ?_; focus (first | exact b2i_01 _ | assumption | decide | (simp; done))))
/-- the chunks there are -/
def chN (cm : CM) : Int32 := (cm 0 0 0 + 16 - 1) / 16
def roN (cm : CM) (k : Int32) : Int32 := imin 16 (cm 0 0 0 - 16 * k)

