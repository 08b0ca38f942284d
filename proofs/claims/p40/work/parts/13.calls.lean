/-! ===== making, returning, throwing, calling ===== -/
def o_throw (E : String) : Op := fun _ _ f bc bs _ _ _ X => 1 ≤ bc ∧ 6 ≤ bs ∧ X E f
theorem vf_le (st : List Value) (h : st.length ≤ 8) : (st.map fun v => v.category).sum ≤ 16 := by
  have : ∀ l : List Value, (l.map fun v => v.category).sum ≤ 2 * l.length := by
    intro l
    induction l with
    | nil => simp
    | cons v r ih =>
      have hv : v.category ≤ 2 := by rcases lv_cat v with h | h <;> omega
      simp only [List.map_cons, List.sum_cons, List.length_cons]
      omega
  have := this st
  omega
theorem ok_throw {M : MI} {pc ik ic : Nat} {E : String} (hown1 : M.1 = RX8) (hh : M.2.2.2.2.1 = []) (hcls : Bundle.fit E = true) (hat9 : ∀ w ∈ vx_at0 RX8 ic E ["java/lang/RuntimeException", "java/lang/Exception"], (w ∈ lw_tbl ∧ kw w = true) ∧ vx_ot w = true) (hk9 : Cond.classLink RX8 ik E ∈ lw_tbl ∧ Cond.initialized E ∈ lw_tbl)
    (d0 : decode M.2.1 pc = .ok (.new ik, 3)) (d3 : decode M.2.1 (pc + 3) = .ok (.dup, 1)) (d4 : decode M.2.1 (pc + 4) = .ok (.invokespecial ic, 3)) (d7 : decode M.2.1 (pc + 7) = .ok (.athrow, 1)) : OpOk M pc 8 (fun lv st f bc bs K B Q X => st = [] ∧ o_throw E lv st f bc bs K B Q X) := by
  intro C Q X hC K hK B' hB lv st f bc bs h
  obtain ⟨⟨g, MC, MS⟩, ⟨p, l, e, R⟩, ⟨s, m, args, below, meth, c⟩, Qf⟩ := C
  obtain ⟨hx, hb, hml, hown, hw, hlk, hE, hst, hR, hex, hin, hrt, hQ, hgl⟩ := hC
  intro ls H locs cells slots hl hrep hS hc1 hc2
  obtain ⟨rfl, h1, h2, h3⟩ := h
  subst hR hQ
  rw [hown1] at hown
  have hex0 : c.exceptionTable.toList = [] := by rw [hex, hh]; rfl
  refine vx_throw0 (names := ["java/lang/RuntimeException", "java/lang/Exception"]) hx hb hst hown hcls (by decide) (hw _ hk9.1 rfl) (hw _ hk9.2 rfl) (fun w hm => hw w (hat9 w hm).1.1 (hat9 w hm).1.2) ?_ hE.2.1 hE.2.2.1 hS (hl.1.trans hml.symm) d0 d3 d4 d7 (fun x hx9 => by rw [hex0] at hx9; cases hx9) (by show 5 < 10 + _; omega) (by show 0 + (13 * 3 + 42) ≤ 200 + _; omega) (by show cells + 1 ≤ MC; omega) (by show slots + 6 ≤ MS; omega) hlk ?_ hS.2.2 (by omega) (by omega)
  · intro w hm
    rcases List.mem_cons.mp hm with rfl | hm
    · rfl
    · rcases List.mem_cons.mp hm with rfl | hm
      · rfl
      · exact (hat9 w hm).2
  · intro t hal hz hq
    exact ⟨f, h3, fun a c9 hc9 => ⟨(hrep a c9 hc9).1.kept (hq a (hrep a c9 hc9).1.lt), (hrep a c9 hc9).2⟩, ⟨Nat.le_trans hS.1 hz, fun q h4 h5 => (hq q (Nat.lt_of_lt_of_le h4 hS.1)).trans (hS.2.1 q h4 h5)⟩⟩
def o_iret : Op := fun _ st f _ _ _ _ Q _ => match st with | [.int x] => Q (some (.int x)) f | _ => False
theorem ok_iret {M : MI} {pc : Nat} (hr : M.2.2.2.1 = some .int) (d : decode M.2.1 pc = .ok (.ireturn, 1)) : OpOk M pc 1 o_iret := by
  intro C Q X hC K hK B' hB lv st f bc bs h
  obtain ⟨⟨g, MC, MS⟩, ⟨p, l, e, R⟩, ⟨s, m, args, below, meth, c⟩, Qf⟩ := C
  obtain ⟨hx, hb, hml, hown, hw, hlk, hE, hst, hR, hex, hin, hrt, hQ, hgl⟩ := hC
  intro ls H locs cells slots hl hrep hS hc1 hc2
  simp only [o_iret] at h
  split at h
  · skip
    subst hQ
    refine vx_ret (W.widen (k := MC) (n := MS) (by omega) (by omega) ?_)
    exact W.iret hx hb (hrt.trans hr) (fun t ht hW => ⟨_, f, rfl, h, by rw [ht]; exact hrep, hS.F ht⟩) hS.2.2 d hlk
  · exact h.elim
def o_zret : Op := fun _ st f _ _ _ _ Q _ => match st with | [.int x] => (x = 0 ∨ x = 1) ∧ Q (some (.int x)) f | _ => False
theorem ok_zret {M : MI} {pc : Nat} (hr : M.2.2.2.1 = some .boolean) (d : decode M.2.1 pc = .ok (.ireturn, 1)) : OpOk M pc 1 o_zret := by
  intro C Q X hC K hK B' hB lv st f bc bs h
  obtain ⟨⟨g, MC, MS⟩, ⟨p, l, e, R⟩, ⟨s, m, args, below, meth, c⟩, Qf⟩ := C
  obtain ⟨hx, hb, hml, hown, hw, hlk, hE, hst, hR, hex, hin, hrt, hQ, hgl⟩ := hC
  intro ls H locs cells slots hl hrep hS hc1 hc2
  simp only [o_zret] at h
  split at h
  · obtain ⟨h0, h⟩ := h
    subst hQ
    refine vx_ret (W.widen (k := MC) (n := MS) (by omega) (by omega) ?_)
    exact W.zret (ty := .boolean) hx hb (hrt.trans hr) (by rcases h0 with rfl | rfl <;> rfl) (fun t ht hW => ⟨_, f, rfl, h, by rw [ht]; exact hrep, hS.F ht⟩) hS.2.2 d hlk
  · exact h.elim
def o_cret : Op := fun _ st f _ _ _ _ Q _ => match st with | [.int x] => (∃ q : Nat, q < 65536 ∧ x = nI q) ∧ Q (some (.int x)) f | _ => False
theorem ok_cret {M : MI} {pc : Nat} (hr : M.2.2.2.1 = some .char) (d : decode M.2.1 pc = .ok (.ireturn, 1)) : OpOk M pc 1 o_cret := by
  intro C Q X hC K hK B' hB lv st f bc bs h
  obtain ⟨⟨g, MC, MS⟩, ⟨p, l, e, R⟩, ⟨s, m, args, below, meth, c⟩, Qf⟩ := C
  obtain ⟨hx, hb, hml, hown, hw, hlk, hE, hst, hR, hex, hin, hrt, hQ, hgl⟩ := hC
  intro ls H locs cells slots hl hrep hS hc1 hc2
  simp only [o_cret] at h
  split at h
  · obtain ⟨h0, h⟩ := h
    subst hQ
    refine vx_ret (W.widen (k := MC) (n := MS) (by omega) (by omega) ?_)
    exact W.zret (ty := .char) hx hb (hrt.trans hr) (by obtain ⟨q, hq, rfl⟩ := h0; exact (pk_charN hq).1) (fun t ht hW => ⟨_, f, rfl, h, by rw [ht]; exact hrep, hS.F ht⟩) hS.2.2 d hlk
  · exact h.elim
def o_aret : Op := fun _ st f _ _ _ _ Q _ => match st with | [.ref x] => Q (some (.ref x)) f | _ => False
theorem ok_aret {M : MI} {pc : Nat} {rt : FieldType} (hr : M.2.2.2.1 = some rt) (hrr : (∃ n, rt = .object n) ∨ ∃ t, rt = .array t) (d : decode M.2.1 pc = .ok (.areturn, 1)) : OpOk M pc 1 o_aret := by
  intro C Q X hC K hK B' hB lv st f bc bs h
  obtain ⟨⟨g, MC, MS⟩, ⟨p, l, e, R⟩, ⟨s, m, args, below, meth, c⟩, Qf⟩ := C
  obtain ⟨hx, hb, hml, hown, hw, hlk, hE, hst, hR, hex, hin, hrt, hQ, hgl⟩ := hC
  intro ls H locs cells slots hl hrep hS hc1 hc2
  simp only [o_aret] at h
  split at h
  · skip
    subst hQ
    refine vx_ret (W.widen (k := MC) (n := MS) (by omega) (by omega) ?_)
    exact W.aret (rt := rt) hx hb (hrt.trans hr) hrr (Or.inr ⟨_, rfl⟩) (fun t ht hW => ⟨_, f, rfl, h, by rw [ht]; exact hrep, hS.F ht⟩) hS.2.2 d hlk
  · exact h.elim
def o_lret : Op := fun _ st f _ _ _ _ Q _ => match st with | [.long x] => Q (some (.long x)) f | _ => False
theorem ok_lret {M : MI} {pc : Nat} (hr : M.2.2.2.1 = some .long) (d : decode M.2.1 pc = .ok (.lreturn, 1)) : OpOk M pc 1 o_lret := by
  intro C Q X hC K hK B' hB lv st f bc bs h
  obtain ⟨⟨g, MC, MS⟩, ⟨p, l, e, R⟩, ⟨s, m, args, below, meth, c⟩, Qf⟩ := C
  obtain ⟨hx, hb, hml, hown, hw, hlk, hE, hst, hR, hex, hin, hrt, hQ, hgl⟩ := hC
  intro ls H locs cells slots hl hrep hS hc1 hc2
  simp only [o_lret] at h
  split at h
  · skip
    subst hQ
    refine vx_ret (W.widen (k := MC) (n := MS) (by omega) (by omega) ?_)
    exact W.lret hx hb (hrt.trans hr) (fun t ht hW => ⟨_, f, rfl, h, by rw [ht]; exact hrep, hS.F ht⟩) hS.2.2 d hlk
  · exact h.elim
def o_fret : Op := fun _ st f _ _ _ _ Q _ => match st with | [.float x] => Q (some (.float x)) f | _ => False
theorem ok_fret {M : MI} {pc : Nat} (hr : M.2.2.2.1 = some .float) (d : decode M.2.1 pc = .ok (.freturn, 1)) : OpOk M pc 1 o_fret := by
  intro C Q X hC K hK B' hB lv st f bc bs h
  obtain ⟨⟨g, MC, MS⟩, ⟨p, l, e, R⟩, ⟨s, m, args, below, meth, c⟩, Qf⟩ := C
  obtain ⟨hx, hb, hml, hown, hw, hlk, hE, hst, hR, hex, hin, hrt, hQ, hgl⟩ := hC
  intro ls H locs cells slots hl hrep hS hc1 hc2
  simp only [o_fret] at h
  split at h
  · skip
    subst hQ
    refine vx_ret (W.widen (k := MC) (n := MS) (by omega) (by omega) ?_)
    exact W.fret hx hb (hrt.trans hr) (fun t ht hW => ⟨_, f, rfl, h, by rw [ht]; exact hrep, hS.F ht⟩) hS.2.2 d hlk
  · exact h.elim
def o_dret : Op := fun _ st f _ _ _ _ Q _ => match st with | [.double x] => Q (some (.double x)) f | _ => False
theorem ok_dret {M : MI} {pc : Nat} (hr : M.2.2.2.1 = some .double) (d : decode M.2.1 pc = .ok (.dreturn, 1)) : OpOk M pc 1 o_dret := by
  intro C Q X hC K hK B' hB lv st f bc bs h
  obtain ⟨⟨g, MC, MS⟩, ⟨p, l, e, R⟩, ⟨s, m, args, below, meth, c⟩, Qf⟩ := C
  obtain ⟨hx, hb, hml, hown, hw, hlk, hE, hst, hR, hex, hin, hrt, hQ, hgl⟩ := hC
  intro ls H locs cells slots hl hrep hS hc1 hc2
  simp only [o_dret] at h
  split at h
  · skip
    subst hQ
    refine vx_ret (W.widen (k := MC) (n := MS) (by omega) (by omega) ?_)
    exact W.dret hx hb (hrt.trans hr) (fun t ht hW => ⟨_, f, rfl, h, by rw [ht]; exact hrep, hS.F ht⟩) hS.2.2 d hlk
  · exact h.elim
def o_vret : Op := fun _ st f _ _ _ _ Q _ => match st with | [] => Q none f | _ => False
theorem ok_vret {M : MI} {pc : Nat} (hr : M.2.2.2.1 = none) (d : decode M.2.1 pc = .ok (.return_, 1)) : OpOk M pc 1 o_vret := by
  intro C Q X hC K hK B' hB lv st f bc bs h
  obtain ⟨⟨g, MC, MS⟩, ⟨p, l, e, R⟩, ⟨s, m, args, below, meth, c⟩, Qf⟩ := C
  obtain ⟨hx, hb, hml, hown, hw, hlk, hE, hst, hR, hex, hin, hrt, hQ, hgl⟩ := hC
  intro ls H locs cells slots hl hrep hS hc1 hc2
  simp only [o_vret] at h
  split at h
  · skip
    subst hQ
    refine vx_ret (W.widen (k := MC) (n := MS) (by omega) (by omega) ?_)
    exact W.vret hx hb (hrt.trans hr) (fun t ht hW => ⟨_, f, rfl, h, by rw [ht]; exact hrep, hS.F ht⟩) hS.2.2 d hlk
  · exact h.elim
theorem ok_alen {M : MI} {pc : Nat} (d : decode M.2.1 pc = .ok (.arraylength, 1)) : OpOk M pc 1 (o_alen M.2.2.2.2.2.2.2.1) := by
  intro C Q X hC K hK B' hB lv st f bc bs h
  obtain ⟨⟨g, MC, MS⟩, ⟨p, l, e, R⟩, ⟨s, m, args, below, meth, c⟩, Qf⟩ := C
  obtain ⟨hx, hb, hml, hown, hw, hlk, hE, hst, hR, hex, hin, hrt, hQ, hgl⟩ := hC
  intro ls H locs cells slots hl hrep hS hc1 hc2
  simp only [o_alen] at h
  split at h
  · split at h
    · next kd x hf =>
      obtain ⟨hkd, h⟩ := h
      obtain ⟨ty, ht⟩ := kind_ty (aC := g.2.1) hkd
      exact va_alen hx hb hE.1 (hrep.one hf) 0 kd rfl ht rfl d (hK _ _ _ _ _ h ls H locs cells slots hl hrep hS hc1 hc2)
    · obtain ⟨rfl, h⟩ := h
      rw [← hgl.1]
      exact va_tlen hx hb hE.2.2.2.2.1.2 hS rfl d (hK _ _ _ _ _ h ls H locs cells slots hl hrep hS hc1 hc2)
  · exact h.elim
def o_new (ci N : Nat) (fs : List Value) : Op := fun lv st f bc bs K _ _ _ => ∃ bc' bs', bc = bc' + 1 ∧ bs = bs' + N ∧ Mak f (.inr (ci, fs)) (fun q f1 => K lv (.ref q :: st) f1 bc' bs') (0 : Nat)
theorem ok_new {M : MI} {pc i ci : Nat} {r : vw_C} {ty : Nat → FieldType} {fs : List Value} (hc : ClsOk ci r ty) (hcl : Cond.classLink M.1 i r.1 ∈ lw_tbl) (hinst : Cond.instantiable r.1 r.2.2 ∈ lw_tbl) (hini : Cond.initialized r.1 ∈ lw_tbl) (hfs : ∀ j, j < r.2.2 → defaultValue (ty j) = vp_V fs j) (d : decode M.2.1 pc = .ok (.new i, 3)) : OpOk M pc 3 (o_new ci r.2.2 fs) := by
  intro C Q X hC K hK B' hB lv st f bc bs h
  obtain ⟨⟨g, MC, MS⟩, ⟨p, l, e, R⟩, ⟨s, m, args, below, meth, c⟩, Qf⟩ := C
  obtain ⟨hx, hb, hml, hown, hw, hlk, hE, hst, hR, hex, hin, hrt, hQ, hgl⟩ := hC
  intro ls H locs cells slots hl hrep hS hc1 hc2
  obtain ⟨bc', bs', rfl, rfl, h⟩ := h
  subst hR
  have hKn := hE.1.1 ci _ hc.1
  refine W.newcK hx hb hown (hw _ hcl rfl) (hw _ hinst rfl) (hw _ hini rfl) rfl d (by show cells + 1 ≤ MC; omega) (by show slots + r.2.2 ≤ MS; omega) hKn.2.1 rfl fun H1 kC hkC e1 z1 o1 => ?_
  refine hK _ _ _ _ _ (h H.size _ hrep.new rfl) ls H1 locs (cells + 1) (slots + r.2.2) hl (hrep.upN (Nat.le_trans hE.2.2.2.2.2.2.2.2.2.2.2 hS.1) ⟨_, hc.1, (u_born ty (hc.ws hw) (fun _ q => q) hKn hkC e1 hc.2.2.1).to hfs⟩ o1) ⟨Nat.le_trans hS.1 (by omega), fun x h1 h2 => (o1 x (Nat.lt_of_lt_of_le h1 hS.1)).trans (hS.2.1 x h1 h2), hS.2.2⟩ (by omega) (by omega)
def o_newarr (kd : Nat) (z : vp_A) : Op := fun lv st f bc bs K _ _ _ => match st with | .int n :: r => ∃ N bc' bs', n = nI N ∧ N ≤ 100000 ∧ bc = bc' + 1 ∧ bs = bs' + N ∧ Mak f (.inl (kd, N, z.2)) (fun q f1 => K lv (.ref q :: r) f1 bc' bs') (0 : Nat) | _ => False
theorem ok_newarr_int {M : MI} {pc : Nat} (ha : Cond.arrayClass .int ∈ lw_tbl) (d : decode M.2.1 pc = .ok (.newarray .int, 2)) : OpOk M pc 2 (o_newarr 0 (0, .inl (fun _ => 0))) := by
  intro C Q X hC K hK B' hB lv st f bc bs h
  obtain ⟨⟨g, MC, MS⟩, ⟨p, l, e, R⟩, ⟨s, m, args, below, meth, c⟩, Qf⟩ := C
  obtain ⟨hx, hb, hml, hown, hw, hlk, hE, hst, hR, hex, hin, hrt, hQ, hgl⟩ := hC
  intro ls H locs cells slots hl hrep hS hc1 hc2
  simp only [o_newarr] at h
  split at h
  · obtain ⟨N, bc', bs', rfl, hN, rfl, rfl, h⟩ := h
    subst hR
    have hc9 := clampN (j := N) (by omega)
    refine va_newaK (atype := .int) hx hb (hw _ ha rfl) rfl d rfl (nI_pos (by omega)) hc9 (Nat.le_trans (Nat.mul_le_mul hN (Nat.le_refl _)) (Nat.le_of_ble_eq_true rfl)) (by show cells + 1 ≤ MC; omega) (by show slots + N ≤ MS; omega) rfl fun H1 cA e1 z1 o1 hAr hNm => ?_
    have hcA : g.2.1 0 = cA := Option.some.inj (((hE.1.2 0 _ rfl).2 : s.vm.findClass _ = some _).symm.trans hNm)
    refine hK _ _ _ _ _ (h H.size _ hrep.new rfl) ls H1 locs (cells + 1) (slots + N) hl (hrep.upN (Nat.le_trans hE.2.2.2.2.2.2.2.2.2.2.2 hS.1) ?_ o1) ⟨Nat.le_trans hS.1 (by omega), fun x h1 h2 => (o1 x (Nat.lt_of_lt_of_le h1 hS.1)).trans (hS.2.1 x h1 h2), hS.2.2⟩ (by omega) (by omega)
    show H1[H.size]? = some (vp_cell (g.2.1 0) _)
    rw [hcA, e1]
    rfl
  · exact h.elim
theorem ok_newarr_boolean {M : MI} {pc : Nat} (ha : Cond.arrayClass .boolean ∈ lw_tbl) (d : decode M.2.1 pc = .ok (.newarray .boolean, 2)) : OpOk M pc 2 (o_newarr 1 (0, .inl (fun _ => 0))) := by
  intro C Q X hC K hK B' hB lv st f bc bs h
  obtain ⟨⟨g, MC, MS⟩, ⟨p, l, e, R⟩, ⟨s, m, args, below, meth, c⟩, Qf⟩ := C
  obtain ⟨hx, hb, hml, hown, hw, hlk, hE, hst, hR, hex, hin, hrt, hQ, hgl⟩ := hC
  intro ls H locs cells slots hl hrep hS hc1 hc2
  simp only [o_newarr] at h
  split at h
  · obtain ⟨N, bc', bs', rfl, hN, rfl, rfl, h⟩ := h
    subst hR
    have hc9 := clampN (j := N) (by omega)
    refine va_newaK (atype := .boolean) hx hb (hw _ ha rfl) rfl d rfl (nI_pos (by omega)) hc9 (Nat.le_trans (Nat.mul_le_mul hN (Nat.le_refl _)) (Nat.le_of_ble_eq_true rfl)) (by show cells + 1 ≤ MC; omega) (by show slots + N ≤ MS; omega) rfl fun H1 cA e1 z1 o1 hAr hNm => ?_
    have hcA : g.2.1 1 = cA := Option.some.inj (((hE.1.2 1 _ rfl).2 : s.vm.findClass _ = some _).symm.trans hNm)
    refine hK _ _ _ _ _ (h H.size _ hrep.new rfl) ls H1 locs (cells + 1) (slots + N) hl (hrep.upN (Nat.le_trans hE.2.2.2.2.2.2.2.2.2.2.2 hS.1) ?_ o1) ⟨Nat.le_trans hS.1 (by omega), fun x h1 h2 => (o1 x (Nat.lt_of_lt_of_le h1 hS.1)).trans (hS.2.1 x h1 h2), hS.2.2⟩ (by omega) (by omega)
    show H1[H.size]? = some (vp_cell (g.2.1 1) _)
    rw [hcA, e1]
    rfl
  · exact h.elim
def o_pop1 : Op := fun lv st f bc bs K _ _ _ => match st with | .ref a :: r => r.length ≤ 8 ∧ K lv r f bc bs | _ => False
theorem ok_objInit {M : MI} {pc i : Nat} (h1 : Cond.methodLink M.1 i Lib.objectInit ∈ lw_tbl) (h2 : Cond.instanceMethod Lib.objectInit ∈ lw_tbl) (h3 : Cond.code Lib.objectInit ⟨#[0xb1]⟩ 1 none ∈ lw_tbl) (d : decode M.2.1 pc = .ok (.invokespecial i, 3)) : OpOk M pc 3 o_pop1 := by
  intro C Q X hC K hK B' hB lv st f bc bs h
  obtain ⟨⟨g, MC, MS⟩, ⟨p, l, e, R⟩, ⟨s, m, args, below, meth, c⟩, Qf⟩ := C
  obtain ⟨hx, hb, hml, hown, hw, hlk, hE, hst, hR, hex, hin, hrt, hQ, hgl⟩ := hC
  intro ls H locs cells slots hl hrep hS hc1 hc2
  simp only [o_pop1] at h
  split at h
  · obtain ⟨h0, h⟩ := h
    subst hR
    have hv := vf_le _ h0
    refine W.objInit hx hb hown (hw _ h1 rfl) (hw _ h2 rfl) (hw _ h3 rfl) rfl (by rw [hml]; exact hl.1) rfl d (by show 1 ≤ 10 + _; omega) (by show 2 * 0 + _ + 12 ≤ 200 + _; omega) ?_
    exact W.eq (g2 := F0 m (pc + 3) ls _) rfl (hK _ _ _ _ _ h ls H locs cells slots hl hrep hS hc1 hc2)
  · exact h.elim
theorem ok_empty {M : MI} {pc i : Nat} (hm : Cond.fieldLink M.1 i "java/util/ArrayList" "DEFAULTCAPACITY_EMPTY_ELEMENTDATA" "[Ljava/lang/Object;" ∈ lw_tbl) (d : decode M.2.1 pc = .ok (.getstatic i, 3)) : OpOk M pc 3 (o_push (.ref (M.2.2.2.2.2.2.2.1.2.2 2))) := by
  intro C Q X hC K hK B' hB lv st f bc bs h
  obtain ⟨⟨g, MC, MS⟩, ⟨p, l, e, R⟩, ⟨s, m, args, below, meth, c⟩, Qf⟩ := C
  obtain ⟨hx, hb, hml, hown, hw, hlk, hE, hst, hR, hex, hin, hrt, hQ, hgl⟩ := hC
  intro ls H locs cells slots hl hrep hS hc1 hc2
  rw [o_push, ← hgl.1] at h
  exact va_gets hx hb hE.2.2.2.2.1.1 hS hown (hw _ hm rfl) (fun _ q => q) d (hK _ _ _ _ _ h ls H locs cells slots hl hrep hS hc1 hc2)
def o_siald (g : GG) : Op := fun lv st f bc bs K _ _ _ => match st with | .int i :: .ref a :: r => a = g.2.2 1 ∧ ∃ j : Nat, i = nI j ∧ j < zL g ∧ j < 2147483648 ∧ K lv (.int (zX g j) :: r) f bc bs | _ => False
theorem ok_siald {M : MI} {pc : Nat} (d : decode M.2.1 pc = .ok (.iaload, 1)) : OpOk M pc 1 (o_siald M.2.2.2.2.2.2.2.1) := by
  intro C Q X hC K hK B' hB lv st f bc bs h
  obtain ⟨⟨g, MC, MS⟩, ⟨p, l, e, R⟩, ⟨s, m, args, below, meth, c⟩, Qf⟩ := C
  obtain ⟨hx, hb, hml, hown, hw, hlk, hE, hst, hR, hex, hin, hrt, hQ, hgl⟩ := hC
  intro ls H locs cells slots hl hrep hS hc1 hc2
  simp only [o_siald] at h
  split at h
  · obtain ⟨rfl, j, rfl, hj, hj2, h⟩ := h
    rw [← hgl.1] at hj h ⊢
    exact va_ti hx hb hE.2.2.2.1.2 hS (vin_nI hj (by omega)) (by rw [clampN (by omega)]) d (hK _ _ _ _ _ h ls H locs cells slots hl hrep hS hc1 hc2)
  · exact h.elim
def o_salen (g : GG) : Op := fun lv st f bc bs K _ _ _ => match st with | .ref a :: r => a = g.2.2 1 ∧ K lv (.int (nI (zL g)) :: r) f bc bs | _ => False
theorem ok_salen {M : MI} {pc : Nat} (d : decode M.2.1 pc = .ok (.arraylength, 1)) : OpOk M pc 1 (o_salen M.2.2.2.2.2.2.2.1) := by
  intro C Q X hC K hK B' hB lv st f bc bs h
  obtain ⟨⟨g, MC, MS⟩, ⟨p, l, e, R⟩, ⟨s, m, args, below, meth, c⟩, Qf⟩ := C
  obtain ⟨hx, hb, hml, hown, hw, hlk, hE, hst, hR, hex, hin, hrt, hQ, hgl⟩ := hC
  intro ls H locs cells slots hl hrep hS hc1 hc2
  simp only [o_salen] at h
  split at h
  · obtain ⟨rfl, h⟩ := h
    rw [← hgl.1] at h ⊢
    exact va_tlen hx hb hE.2.2.2.1.2 hS rfl d (hK _ _ _ _ _ h ls H locs cells slots hl hrep hS hc1 hc2)
  · exact h.elim
theorem vw_ofW {l : Launch} {y : MethodName} {ws ws' : List Cond} {rm : Room} {Pc : Array Value → State → Prop} {Qc : Array Value → State → Outcome → State → Prop} {XC : String → State → State → Prop} {mc ms : Nat} {free : Addr → Prop} {cc : ByteArray} {maxL : Nat} {ret : Option FieldType}
    (hy : plainFor y = true) (hw : ws = Cond.code y cc maxL ret :: ws')
    (body : ∀ p e s m args below meth c s₁, BodyLoose p l y (headSpec ws rm) cc maxL ret e s m args below meth c s₁ → c.maxLocals = maxL → (∀ x ∈ c.exceptionTable.toList, False) → Pc args s →
      W p l e (headSpec ws rm).room s m args below meth c s.heap [] 0 0 (vx_MQ below Qc XC args s mc ms free) (entryFrame m args maxL)) : vx_Met l y ws rm Pc Qc XC mc ms free := by
  refine MetFree.of_bodySF (code := cc) (maxLocals := maxL) (ret := ret) hy ?_ ?_
  · intro args s m h hn
    obtain ⟨meth, c, h1, h2, h3, h4, h5, h6, -, -⟩ := Cond.code_spec hn (atoms_spec (ws := ws) h _ (by rw [hw]; exact List.mem_cons_self))
    exact ⟨meth, c, h1, h2, h3, h4, h5, h6⟩
  · intro p e s m args below meth c s₁ B hml hP _
    have hh0 : s₁.heap = s.heap := by rw [B.state]; rfl
    have ht : ∀ x ∈ c.exceptionTable.toList, False := by
      obtain ⟨meth9, c9, h1, h2, -, -, -, -, h7, -⟩ := Cond.code_spec B.named (atoms_spec (ws := ws) B.pre _ (by rw [hw]; exact List.mem_cons_self))
      cases Option.some.inj (h1.symm.trans B.method)
      cases Option.some.inj (h2.symm.trans (Stand.of_body B).code)
      intro x hx
      rw [Array.isEmpty_iff.mp h7] at hx
      cases hx
    obtain ⟨t, a1, o, b1, b2, b3⟩ := body p e s m args below meth c s₁ B hml ht hP s₁ hh0 (Stand.of_body B)
    exact ⟨t, o, a1, b1, b2, b3⟩
/-- A METHOD OUT OF ITS BLOCKS -/
theorem snd_of {y : MethodName} {M : MI} {mc ms : Nat} {T : Spec2} (hy : plainFor y = true) (hy1 : y.cls = M.1) (hni : M.2.2.2.2.2.1 = true → y.name = "<init>") (hh : M.2.2.2.2.1 = []) (hst : M.2.2.2.2.2.2.2.2.stackTraces = false) (blks : List (Nat × Blk)) (ok : ∀ b ∈ blks, BlkOk M b.1 b.2)
    (h : ∀ as f Q X, T as f Q X → ∃ lv0 : LV, las 0 lv0 = lv_args 0 as ∧ (lg_sl as).length ≤ M.2.2.1 ∧ ∀ B : Bx, (∀ (pc : Nat) (b : Blk) (L : List (Nat × Blk)) (n : List Unit), blkAt blks pc = some b → (∀ x ∈ L, x ∈ blks) → ∀ lv st f bc bs, wpL b pc lv st f bc bs (wpF L n B Q X) Q X → B pc lv st f bc bs) → B 0 lv0 [] f mc ms) : Snd y M mc ms T := by
  intro as f Q X hT
  obtain ⟨lv0, hl0, hlen, hB⟩ := h as f Q X hT
  refine vw_ofW (cc := M.2.1) (maxL := M.2.2.1) (ret := M.2.2.2.1) (ws' := []) hy rfl ?_
  intro p e s m args below meth c s₁ B hml hex hv
  obtain ⟨rfl, hrep, hE, hw⟩ := hv
  have hown : s.vm.findClass M.1 = some m.cls := by rw [← hy1]; exact findClass_of_methodNamed B.named
  have hCx : CxOk M ((M.2.2.2.2.2.2.2.1, mc, ms), (p, M.2.2.2.2.2.2.2.2, e, lvlRoom M.2.2.2.2.2.2.1 mc ms), (s, m, as.toArray, below, meth, c), vx_MQ below (QcOf M.2.2.2.2.2.2.2.1 Q) (XcOf M.2.2.2.2.2.2.2.1 X) as.toArray s mc ms (Ag M.2.2.2.2.2.2.2.1)) Q X := by
    refine ⟨B.exec, B.bytes, hml, hown, hw.warm (State.WarmedH.refl s), B.notSynchronized, hE, hst, rfl, ?_, fun hi => ?_, B.returns, rfl, rfl, rfl⟩
    · rw [hh]
      cases hx : c.exceptionTable.toList with
      | nil => rfl
      | cons x r => exact absurd (hex x (by rw [hx]; exact List.mem_cons_self)) id
    · rw [(name_of_methodNamed B.named B.method).1]
      exact hni hi
  have key := hB (Blm ((M.2.2.2.2.2.2.2.1, mc, ms), (p, M.2.2.2.2.2.2.2.2, e, lvlRoom M.2.2.2.2.2.2.1 mc ms), (s, m, as.toArray, below, meth, c), vx_MQ below (QcOf M.2.2.2.2.2.2.2.1 Q) (XcOf M.2.2.2.2.2.2.2.1 X) as.toArray s mc ms (Ag M.2.2.2.2.2.2.2.1)) M.2.2.1) (fun pc b L n hb hL lv st f bc bs hk => BlkOk.run hCx (wpF.run hCx L (fun b hb => ok b (hL b hb)) n) b pc (ok (pc, b) (blkAt_mem hb)) lv st f bc bs hk)
  have hl := lv_entry as (n := M.2.2.1) hlen
  rw [lg_entry_eq]
  exact key _ s.heap [] 0 0 (by rw [LH, hl0]; exact hl) hrep va_S.rf (by omega) (by omega)
section CallRow
variable {p : Program} {l : Launch} {e : Env} {R : Room} {s : State} {m : MethodId} {args : Array Value} {below : List Frame} {meth : Method} {c : Code} {H : Heap} {locs : List Loc} {cells slots : Nat} {Qf : State → Prop}
theorem call_row {g : GG} {mc ms : Nat} {pc : Nat} {ls : Array Slot} {st0 rest : List Value} {a : Array Value} {Q1 : Option Value → AH → Prop} {X1 : String → AH → Prop} (hr : vx_Run p l e R s m args below meth c H locs cells slots mc ms (F0 m pc ls st0) rest (QcOf g Q1 a) (XcOf g X1) (Ag g)) (hS : va_S (Ag g) s.heap H locs)
    (kx : ∀ (E : String) (ce : Cell) (q9 : Addr) (f' : AH) (H1 : Heap) (locs1 : List Loc), X1 E f' → Rep g f' H1 → va_S (Ag g) s.heap H1 locs1 → H1[q9]? = some ce → ce.vm = .none → s.vm.findClass E = some ce.cls → vx_W p l e R s m args below meth c H1 locs1 (cells + mc) (slots + ms) Qf (F0 m pc ls rest) q9)
    (kk : ∀ (v : Option Value) (f' : AH) (H1 : Heap) (locs1 : List Loc), Q1 v f' → Rep g f' H1 → va_S (Ag g) s.heap H1 locs1 → W p l e R s m args below meth c H1 locs1 (cells + mc) (slots + ms) Qf (F0 m (pc + 3) ls (v.toList ++ rest))) : W p l e R s m args below meth c H locs cells slots Qf (F0 m pc ls st0) := by
  intro T hT X
  have keep : ∀ {st₀ t T' : State} {L : List Loc}, st₀.heap = H → T'.heap = t.heap → (∀ z ∈ L, Ag g z.base) → va_F (Ag g) st₀ t → va_S (Ag g) s.heap T'.heap (locs ++ L) := fun h0 e1 hL hF => (vx_keep h0 e1 hS (fun _ _ z => z) (fun _ z => z) hL hF).2.2
  rcases hr T hT X with ⟨v, st₀, t, T', L, h0, X', hL, e1, e2, ⟨r, f', hv, hq, hrep, hF⟩, st⟩ | ⟨q, st₀, t, T', L, E, ce, h0, X', hL, e1, e2, ⟨f', hxx, hrep, hF⟩, hce, hcv, hcl, st⟩
  · cases hv
    obtain ⟨t2, a1, b1⟩ := kk v f' T'.heap (locs ++ L) hq (by rw [e1]; exact hrep) (keep h0 e1 hL hF) T' rfl X'
    exact ⟨t2, st t2 a1, b1⟩
  · obtain ⟨t2, a1, b1⟩ := kx E ce q f' T'.heap (locs ++ L) hxx (by rw [e1]; exact hrep) (keep h0 e1 hL hF) (by rw [e1]; exact hce) hcv hcl T' rfl X'
    exact ⟨t2, st.trans a1, b1⟩
end CallRow
def ctake : List Value → Nat → List Value
  | _, 0 => []
  | [], _ => []
  | v :: r, n + 1 => v :: ctake r n
def cdrop : List Value → Nat → List Value
  | l, 0 => l
  | [], _ => []
  | _ :: r, n + 1 => cdrop r n
theorem ctd : ∀ (l : List Value) (n : Nat), l = ctake l n ++ cdrop l n
  | [], 0 => rfl
  | v :: r, 0 => rfl
  | [], n + 1 => rfl
  | v :: r, n + 1 => by
    show v :: r = v :: (ctake r n ++ cdrop r n)
    rw [← ctd r n]
theorem ctl : ∀ (l : List Value) (n : Nat), n ≤ l.length → (ctake l n).length = n
  | [], 0, _ => rfl
  | v :: r, 0, _ => rfl
  | [], n + 1, h => by simp at h
  | v :: r, n + 1, h => by
    show (ctake r n).length + 1 = n + 1
    rw [ctl r n (by simpa using h)]
/-- a call of n arguments (the receiver is one of them) -/
def o_call (T : Spec2) (n mc ms : Nat) : Op := fun lv st f bc bs K _ _ X => n ≤ st.length ∧ (cdrop st n).length ≤ 4 ∧ ∃ bc' bs', bc = bc' + mc ∧ bs = bs' + ms ∧ T (ctake st n).reverse f (fun v f' => K lv (v.toList ++ cdrop st n) f' bc' bs') X
/-- .. of an object of class ci -/
def o_callV (T : Spec2) (ci n mc ms : Nat) : Op := fun lv st f bc bs K B Q X => (∃ a fs, (ctake st n).reverse.head? = some (.ref a) ∧ f a = some (.inr (ci, fs))) ∧ o_call T n mc ms lv st f bc bs K B Q X
theorem room_le {L1 L2 MC MS mc ms nl : Nat} (h : L2 < L1) (hn : nl ≤ 41) : (lvlRoom L2 mc ms).frames + 1 ≤ (lvlRoom L1 MC MS).frames ∧ 8 + (nl + 11) + (lvlRoom L2 mc ms).locals ≤ (lvlRoom L1 MC MS).locals := by
  simp only [lvlRoom]
  omega
theorem ws_one {s : State} {args : Array Value} {w : Cond} (hw : w.before args s = true) (hg : goodWord w = true) : ∀ w' ∈ [w], ∀ (a' : Array Value) (U : State), s.WarmedH U.vm → w'.before a' U = true := by
  intro w' hm a' U hW
  rcases List.mem_singleton.mp hm with rfl
  exact word_at hW (good_of_word hg) hw
theorem met_of_vx {l : Launch} {y : MethodName} {ws : List Cond} {rm : Room} {Pc : Array Value → State → Prop} {Qc : Array Value → State → Outcome → State → Prop} {XC : String → State → State → Prop} {mc ms : Nat} {free : Addr → Prop} (h : vx_Met l y ws rm Pc Qc XC mc ms free) (hno : ∀ E a b, ¬ XC E a b) : Met l y ws rm Pc Qc mc ms free := by
  intro p e ha hc hk s m args below hf happ hP hK
  obtain ⟨n, o, h1, h2, h3, hq⟩ := h p e ha hc hk s m args below hf happ hP hK
  refine ⟨n, o, h1, h2, h3, ?_⟩
  rcases hq with hq | ⟨q, -, E, ce, L, hx, -⟩
  · exact hq
  · exact absurd hx (hno _ _ _)
theorem run_of {p : Program} {l : Launch} {e : Env} {R : Room} {s : State} {m : MethodId} {args : Array Value} {below : List Frame} {meth : Method} {c : Code} {H : Heap} {locs : List Loc} {cells slots mc ms : Nat} {g : JFrame} {rest : List Value} {Qa : State → Outcome → State → Prop} {XC : String → State → State → Prop} {free : Addr → Prop} (h : va_Run p l e R s m args below meth c H locs cells slots mc ms g rest Qa free) : vx_Run p l e R s m args below meth c H locs cells slots mc ms g rest Qa XC free := by
  intro T hT X
  obtain ⟨v, st₀, t, T', L, h1, h2, h3, h4, h5, h6, h7⟩ := h T hT X
  exact Or.inl ⟨v, st₀, t, T', L, h1, h2, h3, h4, h5, h6, h7⟩
theorem head_split {l : List Value} {b : Nat} (h : l.reverse.head? = some (.ref b)) : ∃ As : List Value, l.reverse = .ref b :: As ∧ l = As.reverse ++ [.ref b] := by
  cases e : l.reverse with
  | nil => rw [e] at h; simp at h
  | cons v r =>
    rw [e] at h
    simp at h
    subst h
    refine ⟨r, rfl, ?_⟩
    have := congrArg List.reverse e
    simpa using this
theorem ok_callS {M : MI} {pc i n k mc ms : Nat} {y : MethodName} {T : Spec2} {o2 : String} {cc2 : ByteArray} {nL2 : Nat} {ret2 : Option FieldType} {hh2 : List (Nat × Nat × Nat × Nat)} {ii2 : Bool} {lv2 : Nat}  (hS2 : Snd y (o2, cc2, nL2, ret2, hh2, ii2, lv2, M.2.2.2.2.2.2.2) mc ms T) (hlv : lv2 < M.2.2.2.2.2.2.1) (hnl : nL2 ≤ 41) (hh : M.2.2.2.2.1 = []) (hk : n = k)
    (h1 : Cond.methodLink M.1 i y ∈ lw_tbl) (h2 : Cond.static y ∈ lw_tbl) (h3 : Cond.initialized y.cls ∈ lw_tbl) (h4 : Cond.code y cc2 nL2 ret2 ∈ lw_tbl)
    (hd : y.cls ≠ "java/lang/invoke/MethodHandle" ∧ y.cls ≠ "java/lang/invoke/VarHandle" ∧ (parseMethodDescriptor y.desc).map (fun d => d.parameters.length) = some k) (d : decode M.2.1 pc = .ok (.invokestatic i, 3)) : OpOk M pc 3 (o_call T n mc ms) := by
  intro C Q X hC K hK B' hB lv st f bc bs h
  obtain ⟨⟨g, MC, MS⟩, ⟨p, l, e, R⟩, ⟨s, m, args, below, meth, c⟩, Qf⟩ := C
  obtain ⟨hx, hb, hml, hown, hw, hlk, hE, hst, hR, hex, hin, hrt, hQ, hgl⟩ := hC
  intro ls H locs cells slots hl hrep hS hc1 hc2
  obtain ⟨hn, hrl, bc', bs', rfl, rfl, hT⟩ := h
  subst hR hQ
  obtain ⟨hg, hl9⟩ := hgl
  subst hg hl9
  have hPc : ∀ U : State, U.heap = H → s.WarmedH U.vm → PcOf M.2.2.2.2.2.2.2.1 (ctake st n).reverse f (ctake st n).reverse.toArray U := fun U hU hW => ⟨rfl, by rw [hU]; exact hrep, by rw [hU]; exact hE.go hW hS.1 hS.2.1, hw.warm hW⟩
  have hex0 : c.exceptionTable.toList = [] := by rw [hex, hh]; rfl
  have kx : ∀ (E : String) (ce : Cell) (q9 : Addr) (f' : AH) (H1 : Heap) (locs1 : List Loc), X E f' → Rep M.2.2.2.2.2.2.2.1 f' H1 → va_S (Ag M.2.2.2.2.2.2.2.1) s.heap H1 locs1 → H1[q9]? = some ce → ce.vm = .none → s.vm.findClass E = some ce.cls → vx_W p M.2.2.2.2.2.2.2.2 e (lvlRoom M.2.2.2.2.2.2.1 MC MS) s m args below meth c H1 locs1 (cells + mc) (slots + ms) (vx_MQ below (QcOf M.2.2.2.2.2.2.2.1 Q) (XcOf M.2.2.2.2.2.2.2.1 X) args s MC MS (Ag M.2.2.2.2.2.2.2.1)) (F0 m pc ls (cdrop st n)) q9 := fun E ce q9 f' H1 locs1 hX hr1 hS1 h1 h2 h3 =>
    vx_out (fun x hx9 => by rw [hex0] at hx9; cases hx9) hlk h1 h2 h3 (fun t ht hal => ⟨f', hX, by rw [ht]; exact hr1, hS1.F ht⟩) hS1.2.2 (by omega) (by omega)
  have kk : ∀ (v : Option Value) (f' : AH) (H1 : Heap) (locs1 : List Loc), K lv (v.toList ++ cdrop st n) f' bc' bs' → Rep M.2.2.2.2.2.2.2.1 f' H1 → va_S (Ag M.2.2.2.2.2.2.2.1) s.heap H1 locs1 → W p M.2.2.2.2.2.2.2.2 e (lvlRoom M.2.2.2.2.2.2.1 MC MS) s m args below meth c H1 locs1 (cells + mc) (slots + ms) (vx_MQ below (QcOf M.2.2.2.2.2.2.2.1 Q) (XcOf M.2.2.2.2.2.2.2.1 X) args s MC MS (Ag M.2.2.2.2.2.2.2.1)) (F0 m (pc + 3) ls (v.toList ++ cdrop st n)) := fun v f' H1 locs1 hk hr1 hS1 => hK _ _ _ _ _ hk ls H1 locs1 _ _ hl hr1 hS1 (by omega) (by omega)
  have hstk := ctd st n
  have hcl := ctl st n hn
  have hv8 : ((cdrop st n).map fun v => v.category).sum ≤ 8 := by
    have : ∀ l : List Value, (l.map fun v => v.category).sum ≤ 2 * l.length := by
      intro l
      induction l with
      | nil => simp
      | cons v r ih =>
        have hv : v.category ≤ 2 := by rcases lv_cat v with h | h <;> omega
        simp only [List.map_cons, List.sum_cons, List.length_cons]
        omega
    have := this (cdrop st n)
    omega
  have hroom := room_le (MC := MC) (MS := MS) (mc := mc) (ms := ms) hlv hnl
  have hS3 := hS2 _ f _ X hT
  refine call_row (rest := cdrop st n) (a := (ctake st n).reverse.toArray) (vx_runS (Ts := []) (own := M.1) (nL := M.2.2.1) (As := (ctake st n).reverse) (n := k) ⟨hx, hb, hml, hown, fun w h9 => by cases h9⟩ hS3 ⟨⟨rfl, rfl, hroom.1, hroom.2, ws_one (hw _ h4 rfl) rfl, List.mem_cons_self, hw _ h4 rfl, hw _ h3 rfl, ⟨hd.1, hd.2.1⟩, fun sig q => by have h9 := hd.2.2; rw [q] at h9; exact (Option.some.inj h9).symm, hw _ h1 rfl⟩, hw _ h2 rfl⟩ ⟨PcOf.blind _ _ _, hPc⟩ rfl (by rw [List.length_reverse, hcl, hk]) hl.1 (by rw [List.reverse_reverse]; exact hstk) (lv_room hv8) d ⟨by show _ ≤ MC; omega, by show _ ≤ MS; omega⟩) hS kx kk
theorem ok_callV {M : MI} {pc i n k mc ms ci : Nat} {y : MethodName} {T : Spec2} {o2 : String} {cc2 : ByteArray} {nL2 : Nat} {ret2 : Option FieldType} {hh2 : List (Nat × Nat × Nat × Nat)} {ii2 : Bool} {lv2 : Nat} {r : vw_C} {ty : Nat → FieldType} (hc : ClsOk ci r ty) (hS2 : Snd y (o2, cc2, nL2, ret2, hh2, ii2, lv2, M.2.2.2.2.2.2.2) mc ms T) (hlv : lv2 < M.2.2.2.2.2.2.1) (hnl : nL2 ≤ 41) (hh : M.2.2.2.2.1 = []) (hk : n = k + 1)
    (h1 : Cond.methodLink M.1 i y ∈ lw_tbl) (h5 : Cond.instanceMethod y ∈ lw_tbl) (h2 : Cond.selects r.1 y y ∈ lw_tbl) (h3 : Cond.initialized y.cls ∈ lw_tbl) (h4 : Cond.code y cc2 nL2 ret2 ∈ lw_tbl)
    (hd : y.cls ≠ "java/lang/invoke/MethodHandle" ∧ y.cls ≠ "java/lang/invoke/VarHandle" ∧ (parseMethodDescriptor y.desc).map (fun d => d.parameters.length) = some k) (d : decode M.2.1 pc = .ok (.invokevirtual i, 3)) : OpOk M pc 3 (o_callV T ci n mc ms) := by
  intro C Q X hC K hK B' hB lv st f bc bs h
  obtain ⟨⟨g, MC, MS⟩, ⟨p, l, e, R⟩, ⟨s, m, args, below, meth, c⟩, Qf⟩ := C
  obtain ⟨hx, hb, hml, hown, hw, hlk, hE, hst, hR, hex, hin, hrt, hQ, hgl⟩ := hC
  intro ls H locs cells slots hl hrep hS hc1 hc2
  obtain ⟨⟨b, fs, hhd, hbf⟩, h⟩ := h
  obtain ⟨hn, hrl, bc', bs', rfl, rfl, hT⟩ := h
  subst hR hQ
  obtain ⟨hg, hl9⟩ := hgl
  subst hg hl9
  have hPc : ∀ U : State, U.heap = H → s.WarmedH U.vm → PcOf M.2.2.2.2.2.2.2.1 (ctake st n).reverse f (ctake st n).reverse.toArray U := fun U hU hW => ⟨rfl, by rw [hU]; exact hrep, by rw [hU]; exact hE.go hW hS.1 hS.2.1, hw.warm hW⟩
  have hex0 : c.exceptionTable.toList = [] := by rw [hex, hh]; rfl
  have kx : ∀ (E : String) (ce : Cell) (q9 : Addr) (f' : AH) (H1 : Heap) (locs1 : List Loc), X E f' → Rep M.2.2.2.2.2.2.2.1 f' H1 → va_S (Ag M.2.2.2.2.2.2.2.1) s.heap H1 locs1 → H1[q9]? = some ce → ce.vm = .none → s.vm.findClass E = some ce.cls → vx_W p M.2.2.2.2.2.2.2.2 e (lvlRoom M.2.2.2.2.2.2.1 MC MS) s m args below meth c H1 locs1 (cells + mc) (slots + ms) (vx_MQ below (QcOf M.2.2.2.2.2.2.2.1 Q) (XcOf M.2.2.2.2.2.2.2.1 X) args s MC MS (Ag M.2.2.2.2.2.2.2.1)) (F0 m pc ls (cdrop st n)) q9 := fun E ce q9 f' H1 locs1 hX hr1 hS1 h1 h2 h3 =>
    vx_out (fun x hx9 => by rw [hex0] at hx9; cases hx9) hlk h1 h2 h3 (fun t ht hal => ⟨f', hX, by rw [ht]; exact hr1, hS1.F ht⟩) hS1.2.2 (by omega) (by omega)
  have kk : ∀ (v : Option Value) (f' : AH) (H1 : Heap) (locs1 : List Loc), K lv (v.toList ++ cdrop st n) f' bc' bs' → Rep M.2.2.2.2.2.2.2.1 f' H1 → va_S (Ag M.2.2.2.2.2.2.2.1) s.heap H1 locs1 → W p M.2.2.2.2.2.2.2.2 e (lvlRoom M.2.2.2.2.2.2.1 MC MS) s m args below meth c H1 locs1 (cells + mc) (slots + ms) (vx_MQ below (QcOf M.2.2.2.2.2.2.2.1 Q) (XcOf M.2.2.2.2.2.2.2.1 X) args s MC MS (Ag M.2.2.2.2.2.2.2.1)) (F0 m (pc + 3) ls (v.toList ++ cdrop st n)) := fun v f' H1 locs1 hk hr1 hS1 => hK _ _ _ _ _ hk ls H1 locs1 _ _ hl hr1 hS1 (by omega) (by omega)
  have hstk := ctd st n
  have hcl := ctl st n hn
  have hv8 : ((cdrop st n).map fun v => v.category).sum ≤ 8 := by
    have : ∀ l : List Value, (l.map fun v => v.category).sum ≤ 2 * l.length := by
      intro l
      induction l with
      | nil => simp
      | cons v r ih =>
        have hv : v.category ≤ 2 := by rcases lv_cat v with h | h <;> omega
        simp only [List.map_cons, List.sum_cons, List.length_cons]
        omega
    have := this (cdrop st n)
    omega
  have hroom := room_le (MC := MC) (MS := MS) (mc := mc) (ms := ms) hlv hnl
  have hS3 := hS2 _ f _ X hT
  obtain ⟨As, eA, eB⟩ := head_split hhd
  have hrecv := va_recv (ci := ci) (q := r) (q0 := 0) hE.1 (hrep.one hbf) hc.1 rfl
  have hlA : As.length = k := by have h9 := congrArg List.length eA; rw [List.length_reverse, hcl] at h9; simp at h9; omega
  rw [eA] at hPc hS3
  refine call_row (rest := cdrop st n) (a := (Value.ref b :: As).toArray) (vx_runV (Ts := []) (own := M.1) (C := r.1) (nL := M.2.2.1) (As := As) (b := b) (n := k) ⟨hx, hb, hml, hown, fun w h9 => by cases h9⟩ hS3 ⟨⟨rfl, rfl, hroom.1, hroom.2, ws_one (hw _ h4 rfl) rfl, List.mem_cons_self, hw _ h4 rfl, hw _ h3 rfl, ⟨hd.1, hd.2.1⟩, fun sig q => by have h9 := hd.2.2; rw [q] at h9; exact (Option.some.inj h9).symm, hw _ h1 rfl⟩, hw _ h5 rfl, hw _ h2 rfl⟩ ⟨PcOf.blind _ _ _, hrecv, hPc⟩ rfl hlA hl.1 (by show st = _; rw [eB, List.append_assoc] at hstk; exact hstk) (lv_room hv8) d ⟨by show _ ≤ MC; omega, by show _ ≤ MS; omega⟩) hS kx kk
/-- a call of a method that throws nothing -/
def o_callX (T : Spec2) (n mc ms : Nat) : Op := fun lv st f bc bs K _ _ _ => n ≤ st.length ∧ (cdrop st n).length ≤ 4 ∧ ∃ bc' bs', bc = bc' + mc ∧ bs = bs' + ms ∧ T (ctake st n).reverse f (fun v f' => K lv (v.toList ++ cdrop st n) f' bc' bs') (fun _ _ => False)
def o_callI (T : Spec2) (n mc ms : Nat) : Op := fun lv st f bc bs K B Q X => (∃ b, (ctake st n).reverse.head? = some (.ref b)) ∧ o_callX T n mc ms lv st f bc bs K B Q X
theorem ok_callI {M : MI} {pc i n k mc ms : Nat} {y : MethodName} {T : Spec2} {o2 : String} {cc2 : ByteArray} {nL2 : Nat} {ret2 : Option FieldType} {hh2 : List (Nat × Nat × Nat × Nat)} {ii2 : Bool} {lv2 : Nat} (hret : ret2 = none) (hS2 : Snd y (o2, cc2, nL2, ret2, hh2, ii2, lv2, M.2.2.2.2.2.2.2) mc ms T) (hlv : lv2 < M.2.2.2.2.2.2.1) (hnl : nL2 ≤ 41) (hh : M.2.2.2.2.1 = []) (hk : n = k + 1)
    (hini : y.name = "<init>") (h1 : Cond.methodLink M.1 i y ∈ lw_tbl) (h5 : Cond.instanceMethod y ∈ lw_tbl) (h3 : Cond.initialized y.cls ∈ lw_tbl) (h4 : Cond.code y cc2 nL2 ret2 ∈ lw_tbl)
    (hd : y.cls ≠ "java/lang/invoke/MethodHandle" ∧ y.cls ≠ "java/lang/invoke/VarHandle" ∧ (parseMethodDescriptor y.desc).map (fun d => d.parameters.length) = some k) (d : decode M.2.1 pc = .ok (.invokespecial i, 3)) : OpOk M pc 3 (o_callI T n mc ms) := by
  intro C Q X hC K hK B' hB lv st f bc bs h
  obtain ⟨⟨g, MC, MS⟩, ⟨p, l, e, R⟩, ⟨s, m, args, below, meth, c⟩, Qf⟩ := C
  obtain ⟨hx, hb, hml, hown, hw, hlk, hE, hst, hR, hex, hin, hrt, hQ, hgl⟩ := hC
  intro ls H locs cells slots hl hrep hS hc1 hc2
  obtain ⟨⟨b, hhd⟩, h⟩ := h
  obtain ⟨hn, hrl, bc', bs', rfl, rfl, hT⟩ := h
  subst hR hQ
  obtain ⟨hg, hl9⟩ := hgl
  subst hg hl9
  have hPc : ∀ U : State, U.heap = H → s.WarmedH U.vm → PcOf M.2.2.2.2.2.2.2.1 (ctake st n).reverse f (ctake st n).reverse.toArray U := fun U hU hW => ⟨rfl, by rw [hU]; exact hrep, by rw [hU]; exact hE.go hW hS.1 hS.2.1, hw.warm hW⟩
  have hex0 : c.exceptionTable.toList = [] := by rw [hex, hh]; rfl
  have kx : ∀ (E : String) (ce : Cell) (q9 : Addr) (f' : AH) (H1 : Heap) (locs1 : List Loc), X E f' → Rep M.2.2.2.2.2.2.2.1 f' H1 → va_S (Ag M.2.2.2.2.2.2.2.1) s.heap H1 locs1 → H1[q9]? = some ce → ce.vm = .none → s.vm.findClass E = some ce.cls → vx_W p M.2.2.2.2.2.2.2.2 e (lvlRoom M.2.2.2.2.2.2.1 MC MS) s m args below meth c H1 locs1 (cells + mc) (slots + ms) (vx_MQ below (QcOf M.2.2.2.2.2.2.2.1 Q) (XcOf M.2.2.2.2.2.2.2.1 X) args s MC MS (Ag M.2.2.2.2.2.2.2.1)) (F0 m pc ls (cdrop st n)) q9 := fun E ce q9 f' H1 locs1 hX hr1 hS1 h1 h2 h3 =>
    vx_out (fun x hx9 => by rw [hex0] at hx9; cases hx9) hlk h1 h2 h3 (fun t ht hal => ⟨f', hX, by rw [ht]; exact hr1, hS1.F ht⟩) hS1.2.2 (by omega) (by omega)
  have kk : ∀ (v : Option Value) (f' : AH) (H1 : Heap) (locs1 : List Loc), K lv (v.toList ++ cdrop st n) f' bc' bs' → Rep M.2.2.2.2.2.2.2.1 f' H1 → va_S (Ag M.2.2.2.2.2.2.2.1) s.heap H1 locs1 → W p M.2.2.2.2.2.2.2.2 e (lvlRoom M.2.2.2.2.2.2.1 MC MS) s m args below meth c H1 locs1 (cells + mc) (slots + ms) (vx_MQ below (QcOf M.2.2.2.2.2.2.2.1 Q) (XcOf M.2.2.2.2.2.2.2.1 X) args s MC MS (Ag M.2.2.2.2.2.2.2.1)) (F0 m (pc + 3) ls (v.toList ++ cdrop st n)) := fun v f' H1 locs1 hk hr1 hS1 => hK _ _ _ _ _ hk ls H1 locs1 _ _ hl hr1 hS1 (by omega) (by omega)
  have hstk := ctd st n
  have hcl := ctl st n hn
  have hv8 : ((cdrop st n).map fun v => v.category).sum ≤ 8 := by
    have : ∀ l : List Value, (l.map fun v => v.category).sum ≤ 2 * l.length := by
      intro l
      induction l with
      | nil => simp
      | cons v r ih =>
        have hv : v.category ≤ 2 := by rcases lv_cat v with h | h <;> omega
        simp only [List.map_cons, List.sum_cons, List.length_cons]
        omega
    have := this (cdrop st n)
    omega
  have hroom := room_le (MC := MC) (MS := MS) (mc := mc) (ms := ms) hlv hnl
  subst hret
  have hS3 := hS2 _ f _ _ hT
  obtain ⟨As, eA, eB⟩ := head_split hhd
  have hlA : As.length = k := by have h9 := congrArg List.length eA; rw [List.length_reverse, hcl] at h9; simp at h9; omega
  rw [eA] at hPc hS3
  refine call_row (X1 := fun _ _ => False) (rest := cdrop st n) (a := (Value.ref b :: As).toArray) (run_of (va_runI (Ts := []) (own := M.1) (nL := M.2.2.1) (As := As) (b := b) (n := k) ⟨hx, hb, hml, hown, fun w h9 => by cases h9⟩ (met_of_vx hS3 (fun E a b q => by obtain ⟨f9, q9, -⟩ := q; exact q9)) ⟨⟨rfl, rfl, hroom.1, hroom.2, ws_one (hw _ h4 rfl) rfl, List.mem_cons_self, hw _ h4 rfl, hw _ h3 rfl, ⟨hd.1, hd.2.1⟩, fun sig q => by have h9 := hd.2.2; rw [q] at h9; exact (Option.some.inj h9).symm, hw _ h1 rfl⟩, hini, hw _ h5 rfl⟩ ⟨PcOf.blind _ _ _, hPc⟩ rfl hlA hl.1 (by show st = _; rw [eB, List.append_assoc] at hstk; exact hstk) (lv_room hv8) d ⟨by show _ ≤ MC; omega, by show _ ≤ MS; omega⟩)) hS (fun _ _ _ _ _ _ q => q.elim) kk
theorem OpOk.mono {M : MI} {pc n : Nat} {o o' : Op} (h : OpOk M pc n o) (hm : ∀ lv st f bc bs K B Q X, o' lv st f bc bs K B Q X → o lv st f bc bs K B Q X) : OpOk M pc n o' := fun C Q X hC K hK B' hB lv st f bc bs h9 => h C Q X hC K hK B' hB lv st f bc bs (hm _ _ _ _ _ _ _ _ _ h9)
def o_call0 (T : Spec2) (n : Nat) : Op := fun lv st f bc bs K _ _ X => n ≤ st.length ∧ (cdrop st n).length ≤ 4 ∧ T (ctake st n).reverse f (fun v f' => K lv (v.toList ++ cdrop st n) f' bc bs) X
theorem call0_of {T : Spec2} {n : Nat} : ∀ lv st f bc bs K B Q X, o_call0 T n lv st f bc bs K B Q X → o_call T n 0 0 lv st f bc bs K B Q X := fun lv st f bc bs K B Q X h => ⟨h.1, h.2.1, bc, bs, rfl, rfl, h.2.2⟩
def o_callR (o : Op) (ci n : Nat) : Op := fun lv st f bc bs K B Q X => match (ctake st n).reverse with | .ref a :: _ => hobj f a ci (fun _ => True) ∧ o lv st f bc bs K B Q X | _ => False
theorem callR_of {T : Spec2} {ci n mc ms : Nat} : ∀ lv st f bc bs K B Q X, o_callR (o_call T n mc ms) ci n lv st f bc bs K B Q X → o_callV T ci n mc ms lv st f bc bs K B Q X := fun lv st f bc bs K B Q X h => by
  simp only [o_callR] at h
  split at h
  · next a r e =>
    obtain ⟨fs, hf, -⟩ := hobj_ex h.1
    exact ⟨⟨a, fs, by rw [e]; rfl, hf⟩, h.2⟩
  · exact h.elim
theorem callR0_of {T : Spec2} {ci n : Nat} : ∀ lv st f bc bs K B Q X, o_callR (o_call0 T n) ci n lv st f bc bs K B Q X → o_callV T ci n 0 0 lv st f bc bs K B Q X := fun lv st f bc bs K B Q X h => by
  refine callR_of lv st f bc bs K B Q X ?_
  simp only [o_callR] at h ⊢
  split at h
  · next a r e => exact ⟨h.1, call0_of lv st f bc bs K B Q X h.2⟩
  · exact h.elim
