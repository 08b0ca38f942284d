-- deps: 23.mo3
/-! ===== operations on lists' arrays, class objects, grids that are made ===== -/
def updq (a : Nat → Option Nat) (j : Nat) (x : Option Nat) : Nat → Option Nat := fun k => if k = j then x else a k
theorem updq_s (a : Nat → Option Nat) (j : Nat) (x : Option Nat) : updq a j x j = x := if_pos rfl
theorem updq_n (a : Nat → Option Nat) {j k : Nat} (x : Option Nat) (h : k ≠ j) : updq a j x k = a k := if_neg h
abbrev arq (n : Nat) (c : Nat → Option Nat) : AC := .inl (7, n, .inr (.inr (.inr (.inr c))))
/-- what may lie in a list -/
def isEl (ci : Nat) : Prop := ci = 2 ∨ ci = 3 ∨ ci = 8
theorem anyO {g : GG} {f : AH} {H : Heap} {s : State} {args : Array Value} (hK : va_K g.1 gcl (gtys g.2.1) s) (hw : Wds args s) (hrep : Rep g f H) {y ci : Nat} {fs : List Value} (hf : f y = some (.inr (ci, fs))) (hci : isEl ci) : va_Any "java/lang/Object" s H y := by
  rcases hci with rfl | rfl | rfl
  · refine va_rAny hK (hrep.one hf) (q0 := 0) rfl (r := (RX1, TX1, 5)) rfl fun comp c0 h1 h2 => ?_
    obtain ⟨c1, t1, f1, f2, f3⟩ := Cond.castable_spec (hw _ tw_1110 rfl)
    cases f1.symm.trans h2
    cases f2.symm.trans h1
    exact f3
  · refine va_rAny hK (hrep.one hf) (q0 := 0) rfl (r := (RX2, TX2, 8)) rfl fun comp c0 h1 h2 => ?_
    obtain ⟨c1, t1, f1, f2, f3⟩ := Cond.castable_spec (hw _ tw_1105 rfl)
    cases f1.symm.trans h2
    cases f2.symm.trans h1
    exact f3
  · refine va_rAny hK (hrep.one hf) (q0 := 0) rfl (r := (RX7, TX7, 11)) rfl fun comp c0 h1 h2 => ?_
    obtain ⟨c1, t1, f1, f2, f3⟩ := Cond.castable_spec (hw _ tw_1108 rfl)
    cases f1.symm.trans h2
    cases f2.symm.trans h1
    exact f3
def o_aast : Op := fun lv st f bc bs K _ _ _ => match st with
  | .ref x :: .int i :: .ref a :: r => (∃ ci fs, isEl ci ∧ f x = some (.inr (ci, fs))) ∧ hAR f a 7 fun n arr => ∃ j : Nat, i = nI j ∧ j < n ∧ j < 2147483648 ∧ Sto (aup f a (arq n (updq arr j (some x)))) (fun f1 => K lv r f1 bc bs) (0 : Nat)
  | _ => False
theorem ok_aast {M : MI} {pc : Nat} (d : decode M.2.1 pc = .ok (.aastore, 1)) : OpOk M pc 1 o_aast := by
  intro C Q X hC K hK B' hB lv st f bc bs h
  obtain ⟨⟨g, MC, MS⟩, ⟨p, l, e, R⟩, ⟨s, m, args, below, meth, c⟩, Qf⟩ := C
  obtain ⟨hx, hb, hml, hown, hw, hlk, hE, hst, hR, hex, hin, hrt, hQ, hgl⟩ := hC
  intro ls H locs cells slots hl hrep hS hc1 hc2
  simp only [o_aast] at h
  split at h
  · next x i a st9 =>
    obtain ⟨⟨ci, fs, hci, hx9⟩, h⟩ := h
    obtain ⟨n, arr, hf, j, rfl, hj, hj2, h⟩ := hAR_ex h
    obtain ⟨cellV, g1, g3, ⟨kC, hkC⟩, hasg⟩ := anyO hE.1 hw hrep hx9 hci
    obtain ⟨kA, comp, k1, k2, k3, -⟩ := (hE.1.2 7 _ rfl).2
    obtain ⟨kE, hkE, -⟩ := Vm.findClass_spec k3
    have hcell : H[a]? = some (vp_cell (g.2.1 7) (n, .inr (.inr (.inr (.inr arr))))) := (hrep a _ hf).1
    refine W.aast hx hb hcell (fun q h => by cases h) (fun h => by cases h) k1 k2 rfl hkE ⟨nI_pos hj2, by show _ < (arrV _ _ _).slots.size; rw [arrV_size, clampN hj2]; exact hj⟩ g1 (fun q h => by rw [h] at g3; cases g3) hkC (hasg _ k3) rfl rfl d fun H1 e z oq => ?_
    refine hK _ _ _ _ _ (h _ rfl) ls H1 _ cells slots hl (hrep.up (hrep a _ hf).2 ?_ oq) (hS.put z oq (hrep a _ hf).2) hc1 hc2
    show H1[a]? = some (vp_cell _ _)
    rw [e, vp_cell_q, vp_cell_q, arrV_store, clampN hj2]
    congr 2
    funext q
    by_cases hq : q = j
    · subst hq
      simp [updV, updq, va_rf]
    · simp [updV, updq, hq]
  · exact h.elim
def o_anew : Op := fun lv st f bc bs K _ _ _ => match st with
  | .int n :: r => ∃ N bc' bs', n = nI N ∧ N ≤ 100000 ∧ bc = bc' + 1 ∧ bs = bs' + N ∧ Mak f (arq N (fun _ => none)) (fun q f1 => K lv (.ref q :: r) f1 bc' bs') (0 : Nat)
  | _ => False
theorem ok_anew {M : MI} {pc i : Nat} (hcl : Cond.classLink M.1 i "java/lang/Object" ∈ lw_tbl) (d : decode M.2.1 pc = .ok (.anewarray i, 3)) : OpOk M pc 3 o_anew := by
  intro C Q X hC K hK B' hB lv st f bc bs h
  obtain ⟨⟨g, MC, MS⟩, ⟨p, l, e, R⟩, ⟨s, m, args, below, meth, c⟩, Qf⟩ := C
  obtain ⟨hx, hb, hml, hown, hw, hlk, hE, hst, hR, hex, hin, hrt, hQ, hgl⟩ := hC
  intro ls H locs cells slots hl hrep hS hc1 hc2
  simp only [o_anew] at h
  split at h
  · obtain ⟨N, bc', bs', rfl, hN, rfl, rfl, h⟩ := h
    subst hR
    have hc9 := clampN (j := N) (by omega)
    obtain ⟨kA0, comp0, k1, k2, k3, k4⟩ := (hE.1.2 7 _ rfl).2
    refine W.anew hx hb hown (hw _ hcl rfl) (va_AO.use hE.2.2.2.2.2.2.2.2.2.1) rfl d rfl (nI_pos (by omega)) (by rw [hc9]; exact Nat.le_trans (Nat.mul_le_mul hN (Nat.le_refl _)) (Nat.le_of_ble_eq_true rfl)) (by show cells + 1 ≤ MC; omega) (by show slots + _ ≤ MS; rw [hc9]; omega) fun cA kA comp f1 f2 f3 f4 => ?_
    have hcA : g.2.1 7 = cA := Option.some.inj (k4.symm.trans f1)
    subst hcA
    rw [hc9]
    have z1 : (H.push ({ cls := g.2.1 7, slots := Array.replicate N .null, vm := .none } : Cell)).size = H.size + 1 := Array.size_push ..
    have o1 : ∀ q : Nat, q < H.size → (H.push ({ cls := g.2.1 7, slots := Array.replicate N .null, vm := .none } : Cell))[q]? = H[q]? := fun q hq => by rw [Array.getElem?_push, if_neg (Nat.ne_of_lt hq)]
    refine hK _ _ _ _ _ (h H.size _ hrep.new rfl) ls _ locs (cells + 1) (slots + N) hl (hrep.upN (Nat.le_trans hE.2.2.2.2.2.2.2.2.2.2.2 hS.1) ?_ o1) ⟨Nat.le_trans hS.1 (by omega), fun x h1 h2 => (o1 x (Nat.lt_of_lt_of_le h1 hS.1)).trans (hS.2.1 x h1 h2), hS.2.2⟩ (by omega) (by omega)
    show _ = some (vp_cell (g.2.1 7) _)
    rw [Array.getElem?_push_size]
    exact congrArg some (arrV_new ..)
  · exact h.elim
def o_acmpeq (t : Nat) : Op := fun lv st f bc bs K B _ _ => match st with | .ref y :: .ref x :: r => (x = y → B t lv r f bc bs) ∧ (¬ (x = y) → K lv r f bc bs) | _ => False
theorem ok_acmpeq {M : MI} {pc t : Nat} {o : Int} (ht : (pc : Int) + o = (t : Int)) (d : decode M.2.1 pc = .ok (.if_acmp .eq o, 3)) : OpOk M pc 3 (o_acmpeq t) := by
  intro C Q X hC K hK B' hB lv st f bc bs h
  obtain ⟨⟨g, MC, MS⟩, ⟨p, l, e, R⟩, ⟨s, m, args, below, meth, c⟩, Qf⟩ := C
  obtain ⟨hx, hb, hml, hown, hw, hlk, hE, hst, hR, hex, hin, hrt, hQ, hgl⟩ := hC
  intro ls H locs cells slots hl hrep hS hc1 hc2
  simp only [o_acmpeq] at h
  split at h
  · next y x r => exact lv_acmp_eq (rx := some x) (ry := some y) hx hb d ht (fun q => hB _ _ _ _ _ _ (h.1 (Option.some.inj q)) ls H locs cells slots hl hrep hS hc1 hc2) (fun q => hK _ _ _ _ _ (h.2 (fun z => q (by rw [z]))) ls H locs cells slots hl hrep hS hc1 hc2)
  · exact h.elim
def o_acmpne (t : Nat) : Op := fun lv st f bc bs K B _ _ => match st with | .ref y :: .ref x :: r => (¬ (x = y) → B t lv r f bc bs) ∧ (x = y → K lv r f bc bs) | _ => False
theorem ok_acmpne {M : MI} {pc t : Nat} {o : Int} (ht : (pc : Int) + o = (t : Int)) (d : decode M.2.1 pc = .ok (.if_acmp .ne o, 3)) : OpOk M pc 3 (o_acmpne t) := by
  intro C Q X hC K hK B' hB lv st f bc bs h
  obtain ⟨⟨g, MC, MS⟩, ⟨p, l, e, R⟩, ⟨s, m, args, below, meth, c⟩, Qf⟩ := C
  obtain ⟨hx, hb, hml, hown, hw, hlk, hE, hst, hR, hex, hin, hrt, hQ, hgl⟩ := hC
  intro ls H locs cells slots hl hrep hS hc1 hc2
  simp only [o_acmpne] at h
  split at h
  · next y x r => exact lv_acmp_ne (rx := some x) (ry := some y) hx hb d ht (fun q => hB _ _ _ _ _ _ (h.1 (fun z => q (by rw [z]))) ls H locs cells slots hl hrep hS hc1 hc2) (fun q => hK _ _ _ _ _ (h.2 (Option.some.inj q)) ls H locs cells slots hl hrep hS hc1 hc2)
  · exact h.elim
/-- the class object of an Object[] -/
def o_ldcM (g : GG) : Op := fun lv st f bc bs K _ _ _ => K lv (.ref (g.2.2 5) :: st) f bc bs
theorem ok_ldcM {M : MI} {pc i : Nat} (hm : Cond.classLink M.1 i "[Ljava/lang/Object;" ∈ lw_tbl) (d : decode M.2.1 pc = .ok (.ldc i, 2)) : OpOk M pc 2 (o_ldcM M.2.2.2.2.2.2.2.1) := by
  intro C Q X hC K hK B' hB lv st f bc bs h
  obtain ⟨⟨g, MC, MS⟩, ⟨p, l, e, R⟩, ⟨s, m, args, below, meth, c⟩, Qf⟩ := C
  obtain ⟨hx, hb, hml, hown, hw, hlk, hE, hst, hR, hex, hin, hrt, hQ, hgl⟩ := hC
  intro ls H locs cells slots hl hrep hS hc1 hc2
  rw [o_ldcM, ← hgl.1] at h
  exact va_ldcM hx hb hown (hw _ hm rfl) hE.2.2.2.2.2.2.2.2.1 d (hK _ _ _ _ _ h ls H locs cells slots hl hrep hS hc1 hc2)
def o_getC (g : GG) : Op := fun lv st f bc bs K _ _ _ => match st with | .ref a :: r => r.length ≤ 4 ∧ hAR f a 7 fun _ _ => K lv (.ref (g.2.2 5) :: r) f bc bs | _ => False
theorem cat_le (r : List Value) (h : r.length ≤ 4) : (r.map fun v => v.category).sum ≤ 8 := by
  have : ∀ l : List Value, (l.map fun v => v.category).sum ≤ 2 * l.length := by
    intro l
    induction l with
    | nil => simp
    | cons v r ih =>
      have hv : v.category ≤ 2 := by rcases lv_cat v with h | h <;> omega
      simp only [List.map_cons, List.sum_cons, List.length_cons]
      omega
  have := this r
  omega
theorem ok_getC {M : MI} {pc i : Nat} (h1 : Cond.methodLink M.1 i ⟨"java/lang/Object", "getClass", "()Ljava/lang/Class;"⟩ ∈ lw_tbl) (d : decode M.2.1 pc = .ok (.invokevirtual i, 3)) : OpOk M pc 3 (o_getC M.2.2.2.2.2.2.2.1) := by
  intro C Q X hC K hK B' hB lv st f bc bs h
  obtain ⟨⟨g, MC, MS⟩, ⟨p, l, e, R⟩, ⟨s, m, args, below, meth, c⟩, Qf⟩ := C
  obtain ⟨hx, hb, hml, hown, hw, hlk, hE, hst, hR, hex, hin, hrt, hQ, hgl⟩ := hC
  intro ls H locs cells slots hl hrep hS hc1 hc2
  simp only [o_getC] at h
  split at h
  · next a r =>
    obtain ⟨hr4, h⟩ := h
    obtain ⟨n, arr, hf, h⟩ := hAR_ex h
    rw [← hgl.1] at h
    subst hR
    have hv := cat_le r hr4
    have hcell : H[a]? = some (vp_cell (g.2.1 7) (n, .inr (.inr (.inr (.inr arr))))) := (hrep a _ hf).1
    refine va_getC (C := "[Ljava/lang/Object;") hx hb (hml.trans hl.1.symm) hown (hw _ h1 rfl) (hw _ tw_1116 rfl) (hw _ tw_1115 rfl) (hw _ tw_549 rfl) (hw _ tw_567 rfl) hE.2.2.2.2.2.2.2.2.1 ⟨_, hcell, rfl, va_nmO (hE.1.2 7 _ rfl).2 (by decide)⟩ (by show 1 ≤ 10 + _; omega) (by show _ ≤ 200 + _; omega) d (hK _ _ _ _ _ h ls H locs cells slots hl hrep hS hc1 hc2)
  · exact h.elim
/-- a piece of an array of references copied to the start of another one -/
def o_acpyR : Op := fun lv st f bc bs K _ _ _ => match st with
  | .int n :: .int dp :: .ref a :: .int sp :: .ref b :: r => (sp = nI 0 ∧ dp = nI 0) ∧ r.length ≤ 4 ∧ hAR f b 7 fun N0 arr => hAR f a 7 fun N cr => ∃ n' : Nat, n = nI n' ∧ n' ≤ N0 ∧ n' ≤ N ∧ N0 < 2147483648 ∧ N < 2147483648 ∧ (∀ i y, i < n' → arr i = some y → ∃ ci fs, isEl ci ∧ f y = some (.inr (ci, fs))) ∧ Sto (aup f a (arq N (va_cpy arr cr 0 0 n'))) (fun f1 => K lv r f1 bc bs) (0 : Nat)
  | _ => False
theorem ok_acpyR {M : MI} {pc i : Nat} (h1 : Cond.methodLink M.1 i arraycopyName ∈ lw_tbl) (h2 : Cond.native arraycopyName ∈ lw_tbl) (h3 : Cond.static arraycopyName ∈ lw_tbl) (h4 : Cond.initialized "java/lang/System" ∈ lw_tbl) (d : decode M.2.1 pc = .ok (.invokestatic i, 3)) : OpOk M pc 3 o_acpyR := by
  intro C Q X hC K hK B' hB lv st f bc bs h
  obtain ⟨⟨g, MC, MS⟩, ⟨p, l, e, R⟩, ⟨s, m, args, below, meth, c⟩, Qf⟩ := C
  obtain ⟨hx, hb, hml, hown, hw, hlk, hE, hst, hR, hex, hin, hrt, hQ, hgl⟩ := hC
  intro ls H locs cells slots hl hrep hS hc1 hc2
  simp only [o_acpyR] at h
  split at h
  · next n dp a sp b r =>
    obtain ⟨⟨rfl, rfl⟩, hr4, h⟩ := h
    obtain ⟨N0, arr, hf0, h⟩ := hAR_ex h
    obtain ⟨N, cr, hf, n', rfl, a1, a2, a3, a4, hel, h⟩ := hAR_ex h
    subst hR
    have hv := cat_le r hr4
    have hc0 : H[b]? = some (vp_cell (g.2.1 7) (N0, .inr (.inr (.inr (.inr arr))))) := (hrep b _ hf0).1
    have hc9 : H[a]? = some (vp_cell (g.2.1 7) (N, .inr (.inr (.inr (.inr cr))))) := (hrep a _ hf).1
    obtain ⟨-, k0, hk0, cm0, hkk0⟩ := (hE.1.2 7 _ rfl).1 N0 (fun j => va_rf (arr j))
    intro T hT Xs
    obtain ⟨vm', X', step⟩ := Xs.arraycopy hx hown (hw _ h1 rfl) (hw _ h2 rfl) (hw _ h3 rfl) (hw _ h4 rfl) (src := b) (dst := a) (cs := vp_cell (g.2.1 7) (N0, .inr (.inr (.inr (.inr arr))))) (cd := vp_cell (g.2.1 7) (N, .inr (.inr (.inr (.inr cr))))) (srcPos := nI 0) (destPos := nI 0) (n := nI n') (by rw [hT]; exact hc0) (by rw [hT]; exact hc9)
      (fun _ h => by cases h) (fun _ h => by cases h) (fun h => by cases h) (fun h => by cases h) hk0 hk0 hkk0 hkk0 (by rfl) (nI_pos (by omega)) (nI_pos (by omega)) (nI_pos (by omega))
      (by rw [nI_toInt (by omega), nI_toInt (by omega)]; show ¬ _ > ((arrV (g.2.1 7) N0 (fun j => va_rf (arr j))).slots.size : Int); rw [arrV_size]; omega)
      (by rw [nI_toInt (by omega), nI_toInt (by omega)]; show ¬ _ > ((arrV (g.2.1 7) N (fun j => va_rf (cr j))).slots.size : Int); rw [arrV_size]; omega)
      (fun vm₁ hal i hi => by
        rw [nI_clamp (by omega)] at hi
        have e : (vp_cell (g.2.1 7) (N0, .inr (.inr (.inr (.inr arr))))).slots.getD ((nI 0).toNatClampNeg + i) .null = va_rf (arr i) := by
          show (arrV (g.2.1 7) N0 (fun j => va_rf (arr j))).slots.getD _ _ = _
          rw [nI_clamp (by omega), Nat.zero_add, Array.getD_eq_getD_getElem?, arrV_read _ _ (by omega)]
          rfl
        rw [e]
        cases hy : arr i with
        | none => exact ⟨rfl, trivial⟩
        | some y =>
          obtain ⟨ci, fs, hci, hfy⟩ := hel i y hi hy
          obtain ⟨cellV, g1, g2, ⟨kC, hkC⟩, hasg⟩ := anyO hE.1 hw hrep hfy hci
          obtain ⟨kA, comp, r1, r2, r3, -⟩ := (hE.1.2 7 _ rfl).2
          cases hk0.symm.trans r1
          cases hkk0.symm.trans r2
          obtain ⟨kE, hkE, -⟩ := Vm.findClass_spec r3
          obtain ⟨kC', hkC', -⟩ := hal.2.2 _ _ hkC
          obtain ⟨kE', hkE', -⟩ := hal.2.2 _ _ hkE
          refine ⟨rfl, cellV, (show T.heap[y]? = some cellV by rw [hT]; exact g1), (fun q h => by rw [h] at g2; cases g2), ⟨kC', hkC'⟩, ⟨kE', hkE'⟩, ?_⟩
          show vm₁.assignable _ _ = true
          rw [hal.assignable]
          exact hasg _ r3)
      (g := F0 m pc ls (.int (nI n') :: .int (nI 0) :: .ref a :: .int (nI 0) :: .ref b :: r)) rfl (by show _ = c.maxLocals; rw [hml]; exact hl.1) (rest := r) rfl (by rw [hb]; exact d) (by show 1 ≤ 10 + _; omega) (by
        have hn : nativeFrameWords "java/lang/System" "arraycopy" 5 ≤ 100 := by decide
        show 2 * 0 + _ + _ ≤ 200 + _
        omega)
    have e1 : copied (vp_cell (g.2.1 7) (N0, .inr (.inr (.inr (.inr arr))))) (vp_cell (g.2.1 7) (N, .inr (.inr (.inr (.inr cr))))) (nI 0) (nI 0) (nI n') = vp_cell (g.2.1 7) (N, .inr (.inr (.inr (.inr (va_cpy arr cr 0 0 n'))))) := by
      have := va_copied (fun z => va_rf z) (g.2.1 7) (g.2.1 7) arr cr (sp := 0) (dp := 0) (n := n') (n0 := N0) (n1 := N) (by omega)
      unfold copied
      rw [nI_clamp (by omega), nI_clamp (by omega)]
      rw [vp_cell_q, vp_cell_q, vp_cell_q]
      exact this
    rw [e1] at X' step
    have hl9 : a < H.size := (Array.getElem?_eq_some_iff.mp hc9).1
    have hheap : ((T.setVm vm').setCell a (vp_cell (g.2.1 7) (N, .inr (.inr (.inr (.inr (va_cpy arr cr 0 0 n'))))))).heap = H.setIfInBounds a (vp_cell (g.2.1 7) (N, .inr (.inr (.inr (.inr (va_cpy arr cr 0 0 n')))))) := by rw [← hT]; rfl
    have oq : ∀ q : Nat, q ≠ a → (H.setIfInBounds a (vp_cell (g.2.1 7) (N, .inr (.inr (.inr (.inr (va_cpy arr cr 0 0 n')))))))[q]? = H[q]? := fun q hq => by simp [Array.getElem?_setIfInBounds, Ne.symm hq]
    have hnew : (H.setIfInBounds a (vp_cell (g.2.1 7) (N, .inr (.inr (.inr (.inr (va_cpy arr cr 0 0 n')))))))[a]? = some (vp_cell (g.2.1 7) (N, .inr (.inr (.inr (.inr (va_cpy arr cr 0 0 n')))))) := by simp [Array.getElem?_setIfInBounds, hl9]
    have hA := (hrep a _ hf).2
    obtain ⟨t, t1, t2⟩ := hK _ _ _ _ _ (h _ rfl) ls _ _ cells slots hl (hrep.up hA hnew oq) ⟨by simp; exact hS.1, fun q g1 g2 => by
        rw [oq q (fun e => g2 (by rw [e]; exact hA))]
        exact hS.2.1 q g1 g2, fun q hq => by
        rcases List.mem_append.mp hq with h | h
        · exact hS.2.2 q h
        · obtain ⟨z, -, hz⟩ := List.mem_map.mp h
          rw [← hz]
          exact hA⟩ hc1 hc2 _ hheap X'
    exact ⟨t, step t t1, t2⟩
  · exact h.elim
theorem Rep.none_ge {g : GG} {f : AH} {H : Heap} (h : Rep g f H) {a : Nat} (ha : H.size ≤ a) : f a = none := by
  cases e : f a with
  | none => rfl
  | some c => exact absurd (h _ c e).1.lt (by omega)
/-! evaluation -/
theorem e_aast (lv : LV) (x a : Nat) (i : Int32) (r : List Value) (f : AH) (bc bs : Nat) (K : Kx) (B : Bx) (Q : Option Value → AH → Prop) (X : String → AH → Prop) : o_aast lv (.ref x :: .int i :: .ref a :: r) f bc bs K B Q X = ((∃ ci fs, isEl ci ∧ f x = some (.inr (ci, fs))) ∧ hAR f a 7 fun n arr => IX i n (fun j => Sto (aup f a (arq n (updq arr j (some x)))) (fun f1 => K lv r f1 bc bs) (0 : Nat)) (0 : Nat)) := (rfl)
theorem e_anew (lv : LV) (n : Int32) (r : List Value) (f : AH) (bc bs : Nat) (K : Kx) (B : Bx) (Q : Option Value → AH → Prop) (X : String → AH → Prop) : o_anew lv (.int n :: r) f bc bs K B Q X = (∃ N bc' bs', n = nI N ∧ N ≤ 100000 ∧ bc = bc' + 1 ∧ bs = bs' + N ∧ Mak f (arq N (fun _ => none)) (fun q f1 => K lv (.ref q :: r) f1 bc' bs') (0 : Nat)) := (rfl)
theorem e_acmpeq (t : Nat) (lv : LV) (r : List Value) (x y : Nat) (f : AH) (bc bs : Nat) (K : Kx) (B : Bx) (Q : Option Value → AH → Prop) (X : String → AH → Prop) : o_acmpeq t lv (.ref y :: .ref x :: r) f bc bs K B Q X = ((if x = y then B t lv r f bc bs else K lv r f bc bs)) := ite_and.symm
theorem e_acmpne (t : Nat) (lv : LV) (r : List Value) (x y : Nat) (f : AH) (bc bs : Nat) (K : Kx) (B : Bx) (Q : Option Value → AH → Prop) (X : String → AH → Prop) : o_acmpne t lv (.ref y :: .ref x :: r) f bc bs K B Q X = ((if x = y then K lv r f bc bs else B t lv r f bc bs)) := by rw [ite_and]; exact propext And.comm
theorem e_ldcM (g : GG) (lv : LV) (st : List Value) (f : AH) (bc bs : Nat) (K : Kx) (B : Bx) (Q : Option Value → AH → Prop) (X : String → AH → Prop) : o_ldcM g lv st f bc bs K B Q X = K lv (.ref (g.2.2 5) :: st) f bc bs := (rfl)
theorem e_getC (g : GG) (lv : LV) (a : Nat) (r : List Value) (f : AH) (bc bs : Nat) (K : Kx) (B : Bx) (Q : Option Value → AH → Prop) (X : String → AH → Prop) : o_getC g lv (.ref a :: r) f bc bs K B Q X = (r.length ≤ 4 ∧ hAR f a 7 fun _ _ => K lv (.ref (g.2.2 5) :: r) f bc bs) := (rfl)
theorem e_acpyR (lv : LV) (n dp sp : Int32) (a b : Nat) (r : List Value) (f : AH) (bc bs : Nat) (K : Kx) (B : Bx) (Q : Option Value → AH → Prop) (X : String → AH → Prop) : o_acpyR lv (.int n :: .int dp :: .ref a :: .int sp :: .ref b :: r) f bc bs K B Q X = ((sp = nI 0 ∧ dp = nI 0) ∧ r.length ≤ 4 ∧ hAR f b 7 fun N0 arr => hAR f a 7 fun N cr => ∃ n' : Nat, n = nI n' ∧ n' ≤ N0 ∧ n' ≤ N ∧ N0 < 2147483648 ∧ N < 2147483648 ∧ (∀ i y, i < n' → arr i = some y → ∃ ci fs, isEl ci ∧ f y = some (.inr (ci, fs))) ∧ Sto (aup f a (arq N (va_cpy arr cr 0 0 n'))) (fun f1 => K lv r f1 bc bs) (0 : Nat)) := (rfl)

theorem hobj_u (f : AH) (a ci : Nat) (fs : List Value) (k : List Value → Prop) : hobj (aup f a (.inr (ci, fs))) a ci k = k fs := hobj_c (aup_s ..) k
theorem hobj_n {f : AH} {a b ci : Nat} {c : AC} {k : List Value → Prop} (h : b ≠ a) : hobj (aup f a c) b ci k = hobj f b ci k := by simp only [hobj, aup_n f c h]
theorem hAI_u (f : AH) (a kd n : Nat) (arr : Nat → Int32) (k : Nat → (Nat → Int32) → Prop) : hAI (aup f a (.inl (kd, n, .inl arr))) a kd k = k n arr := hAI_c (aup_s ..) k
theorem hAI_n {f : AH} {a b kd : Nat} {c : AC} {k : Nat → (Nat → Int32) → Prop} (h : b ≠ a) : hAI (aup f a c) b kd k = hAI f b kd k := by simp only [hAI, aup_n f c h]
theorem hAR_u (f : AH) (a kd n : Nat) (arr : Nat → Option Nat) (k : Nat → (Nat → Option Nat) → Prop) : hAR (aup f a (.inl (kd, n, .inr (.inr (.inr (.inr arr)))))) a kd k = k n arr := hAR_c (aup_s ..) k
theorem hAR_n {f : AH} {a b kd : Nat} {c : AC} {k : Nat → (Nat → Option Nat) → Prop} (h : b ≠ a) : hAR (aup f a c) b kd k = hAR f b kd k := by simp only [hAR, aup_n f c h]
theorem aup_none (f : AH) (a q : Nat) (c : AC) : (aup f a c q = none) = (q ≠ a ∧ f q = none) := by
  apply propext
  unfold aup
  by_cases h : q = a <;> simp [h]
theorem ne_fr {f : AH} {q a : Nat} {c : AC} (h : f q = none) (ha : f a = some c) : q ≠ a := by
  rintro rfl
  rw [h] at ha
  cases ha


