/-! ===== operations: what an instruction asks and does, and that the machine does it ===== -/
def o_iadd : Op := fun lv st f bc bs K _ _ _ => match st with | .int y :: .int x :: r => K lv (.int (x + y) :: r) f bc bs | _ => False
theorem ok_iadd {M : MI} {pc : Nat} (d : decode M.2.1 pc = .ok (.iadd, 1)) : OpOk M pc 1 o_iadd := by
  intro C Q X hC K hK B' hB lv st f bc bs h
  obtain ⟨⟨g, MC, MS⟩, ⟨p, l, e, R⟩, ⟨s, m, args, below, meth, c⟩, Qf⟩ := C
  obtain ⟨hx, hb, hml, hown, hw, hlk, hE, hst, hR, hex, hin, hrt, hQ, hgl⟩ := hC
  intro ls H locs cells slots hl hrep hS hc1 hc2
  simp only [o_iadd] at h
  split at h
  · skip
    exact lv_iadd hx hb d (hK _ _ _ _ _ h ls H locs cells slots hl hrep hS hc1 hc2)
  · exact h.elim
def o_isub : Op := fun lv st f bc bs K _ _ _ => match st with | .int y :: .int x :: r => K lv (.int (x - y) :: r) f bc bs | _ => False
theorem ok_isub {M : MI} {pc : Nat} (d : decode M.2.1 pc = .ok (.isub, 1)) : OpOk M pc 1 o_isub := by
  intro C Q X hC K hK B' hB lv st f bc bs h
  obtain ⟨⟨g, MC, MS⟩, ⟨p, l, e, R⟩, ⟨s, m, args, below, meth, c⟩, Qf⟩ := C
  obtain ⟨hx, hb, hml, hown, hw, hlk, hE, hst, hR, hex, hin, hrt, hQ, hgl⟩ := hC
  intro ls H locs cells slots hl hrep hS hc1 hc2
  simp only [o_isub] at h
  split at h
  · skip
    exact lv_isub hx hb d (hK _ _ _ _ _ h ls H locs cells slots hl hrep hS hc1 hc2)
  · exact h.elim
def o_imul : Op := fun lv st f bc bs K _ _ _ => match st with | .int y :: .int x :: r => K lv (.int (x * y) :: r) f bc bs | _ => False
theorem ok_imul {M : MI} {pc : Nat} (d : decode M.2.1 pc = .ok (.imul, 1)) : OpOk M pc 1 o_imul := by
  intro C Q X hC K hK B' hB lv st f bc bs h
  obtain ⟨⟨g, MC, MS⟩, ⟨p, l, e, R⟩, ⟨s, m, args, below, meth, c⟩, Qf⟩ := C
  obtain ⟨hx, hb, hml, hown, hw, hlk, hE, hst, hR, hex, hin, hrt, hQ, hgl⟩ := hC
  intro ls H locs cells slots hl hrep hS hc1 hc2
  simp only [o_imul] at h
  split at h
  · skip
    exact lv_imul hx hb d (hK _ _ _ _ _ h ls H locs cells slots hl hrep hS hc1 hc2)
  · exact h.elim
def o_iand : Op := fun lv st f bc bs K _ _ _ => match st with | .int y :: .int x :: r => K lv (.int (x &&& y) :: r) f bc bs | _ => False
theorem ok_iand {M : MI} {pc : Nat} (d : decode M.2.1 pc = .ok (.iand, 1)) : OpOk M pc 1 o_iand := by
  intro C Q X hC K hK B' hB lv st f bc bs h
  obtain ⟨⟨g, MC, MS⟩, ⟨p, l, e, R⟩, ⟨s, m, args, below, meth, c⟩, Qf⟩ := C
  obtain ⟨hx, hb, hml, hown, hw, hlk, hE, hst, hR, hex, hin, hrt, hQ, hgl⟩ := hC
  intro ls H locs cells slots hl hrep hS hc1 hc2
  simp only [o_iand] at h
  split at h
  · skip
    exact lv_iand hx hb d (hK _ _ _ _ _ h ls H locs cells slots hl hrep hS hc1 hc2)
  · exact h.elim
def o_ior : Op := fun lv st f bc bs K _ _ _ => match st with | .int y :: .int x :: r => K lv (.int (x ||| y) :: r) f bc bs | _ => False
theorem ok_ior {M : MI} {pc : Nat} (d : decode M.2.1 pc = .ok (.ior, 1)) : OpOk M pc 1 o_ior := by
  intro C Q X hC K hK B' hB lv st f bc bs h
  obtain ⟨⟨g, MC, MS⟩, ⟨p, l, e, R⟩, ⟨s, m, args, below, meth, c⟩, Qf⟩ := C
  obtain ⟨hx, hb, hml, hown, hw, hlk, hE, hst, hR, hex, hin, hrt, hQ, hgl⟩ := hC
  intro ls H locs cells slots hl hrep hS hc1 hc2
  simp only [o_ior] at h
  split at h
  · skip
    exact lv_ior hx hb d (hK _ _ _ _ _ h ls H locs cells slots hl hrep hS hc1 hc2)
  · exact h.elim
def o_ixor : Op := fun lv st f bc bs K _ _ _ => match st with | .int y :: .int x :: r => K lv (.int (x ^^^ y) :: r) f bc bs | _ => False
theorem ok_ixor {M : MI} {pc : Nat} (d : decode M.2.1 pc = .ok (.ixor, 1)) : OpOk M pc 1 o_ixor := by
  intro C Q X hC K hK B' hB lv st f bc bs h
  obtain ⟨⟨g, MC, MS⟩, ⟨p, l, e, R⟩, ⟨s, m, args, below, meth, c⟩, Qf⟩ := C
  obtain ⟨hx, hb, hml, hown, hw, hlk, hE, hst, hR, hex, hin, hrt, hQ, hgl⟩ := hC
  intro ls H locs cells slots hl hrep hS hc1 hc2
  simp only [o_ixor] at h
  split at h
  · skip
    exact lv_ixor hx hb d (hK _ _ _ _ _ h ls H locs cells slots hl hrep hS hc1 hc2)
  · exact h.elim
def o_ishl : Op := fun lv st f bc bs K _ _ _ => match st with | .int y :: .int x :: r => K lv (.int (x <<< (y &&& 31)) :: r) f bc bs | _ => False
theorem ok_ishl {M : MI} {pc : Nat} (d : decode M.2.1 pc = .ok (.ishl, 1)) : OpOk M pc 1 o_ishl := by
  intro C Q X hC K hK B' hB lv st f bc bs h
  obtain ⟨⟨g, MC, MS⟩, ⟨p, l, e, R⟩, ⟨s, m, args, below, meth, c⟩, Qf⟩ := C
  obtain ⟨hx, hb, hml, hown, hw, hlk, hE, hst, hR, hex, hin, hrt, hQ, hgl⟩ := hC
  intro ls H locs cells slots hl hrep hS hc1 hc2
  simp only [o_ishl] at h
  split at h
  · skip
    exact lv_ishl hx hb d (hK _ _ _ _ _ h ls H locs cells slots hl hrep hS hc1 hc2)
  · exact h.elim
def o_ishr : Op := fun lv st f bc bs K _ _ _ => match st with | .int y :: .int x :: r => K lv (.int (x >>> (y &&& 31)) :: r) f bc bs | _ => False
theorem ok_ishr {M : MI} {pc : Nat} (d : decode M.2.1 pc = .ok (.ishr, 1)) : OpOk M pc 1 o_ishr := by
  intro C Q X hC K hK B' hB lv st f bc bs h
  obtain ⟨⟨g, MC, MS⟩, ⟨p, l, e, R⟩, ⟨s, m, args, below, meth, c⟩, Qf⟩ := C
  obtain ⟨hx, hb, hml, hown, hw, hlk, hE, hst, hR, hex, hin, hrt, hQ, hgl⟩ := hC
  intro ls H locs cells slots hl hrep hS hc1 hc2
  simp only [o_ishr] at h
  split at h
  · skip
    exact lv_ishr hx hb d (hK _ _ _ _ _ h ls H locs cells slots hl hrep hS hc1 hc2)
  · exact h.elim
def o_iushr : Op := fun lv st f bc bs K _ _ _ => match st with | .int y :: .int x :: r => K lv (.int ((x.toUInt32 >>> (y.toUInt32 &&& Int32.toUInt32 31)).toInt32) :: r) f bc bs | _ => False
theorem ok_iushr {M : MI} {pc : Nat} (d : decode M.2.1 pc = .ok (.iushr, 1)) : OpOk M pc 1 o_iushr := by
  intro C Q X hC K hK B' hB lv st f bc bs h
  obtain ⟨⟨g, MC, MS⟩, ⟨p, l, e, R⟩, ⟨s, m, args, below, meth, c⟩, Qf⟩ := C
  obtain ⟨hx, hb, hml, hown, hw, hlk, hE, hst, hR, hex, hin, hrt, hQ, hgl⟩ := hC
  intro ls H locs cells slots hl hrep hS hc1 hc2
  simp only [o_iushr] at h
  split at h
  · skip
    exact lv_iushr hx hb d rfl (hK _ _ _ _ _ h ls H locs cells slots hl hrep hS hc1 hc2)
  · exact h.elim
def o_idiv : Op := fun lv st f bc bs K _ _ _ => match st with | .int y :: .int x :: r => (¬ y = 0) ∧ K lv (.int (x / y) :: r) f bc bs | _ => False
theorem ok_idiv {M : MI} {pc : Nat} (d : decode M.2.1 pc = .ok (.idiv, 1)) : OpOk M pc 1 o_idiv := by
  intro C Q X hC K hK B' hB lv st f bc bs h
  obtain ⟨⟨g, MC, MS⟩, ⟨p, l, e, R⟩, ⟨s, m, args, below, meth, c⟩, Qf⟩ := C
  obtain ⟨hx, hb, hml, hown, hw, hlk, hE, hst, hR, hex, hin, hrt, hQ, hgl⟩ := hC
  intro ls H locs cells slots hl hrep hS hc1 hc2
  simp only [o_idiv] at h
  split at h
  · obtain ⟨h0, h⟩ := h
    exact lv_idiv hx hb d h0 (hK _ _ _ _ _ h ls H locs cells slots hl hrep hS hc1 hc2)
  · exact h.elim
def o_irem : Op := fun lv st f bc bs K _ _ _ => match st with | .int y :: .int x :: r => (¬ y = 0) ∧ K lv (.int (x - x / y * y) :: r) f bc bs | _ => False
theorem ok_irem {M : MI} {pc : Nat} (d : decode M.2.1 pc = .ok (.irem, 1)) : OpOk M pc 1 o_irem := by
  intro C Q X hC K hK B' hB lv st f bc bs h
  obtain ⟨⟨g, MC, MS⟩, ⟨p, l, e, R⟩, ⟨s, m, args, below, meth, c⟩, Qf⟩ := C
  obtain ⟨hx, hb, hml, hown, hw, hlk, hE, hst, hR, hex, hin, hrt, hQ, hgl⟩ := hC
  intro ls H locs cells slots hl hrep hS hc1 hc2
  simp only [o_irem] at h
  split at h
  · obtain ⟨h0, h⟩ := h
    exact lv_irem hx hb d h0 (hK _ _ _ _ _ h ls H locs cells slots hl hrep hS hc1 hc2)
  · exact h.elim
def o_ineg : Op := fun lv st f bc bs K _ _ _ => match st with | .int x :: r => K lv (.int (-x) :: r) f bc bs | _ => False
theorem ok_ineg {M : MI} {pc : Nat} (d : decode M.2.1 pc = .ok (.ineg, 1)) : OpOk M pc 1 o_ineg := by
  intro C Q X hC K hK B' hB lv st f bc bs h
  obtain ⟨⟨g, MC, MS⟩, ⟨p, l, e, R⟩, ⟨s, m, args, below, meth, c⟩, Qf⟩ := C
  obtain ⟨hx, hb, hml, hown, hw, hlk, hE, hst, hR, hex, hin, hrt, hQ, hgl⟩ := hC
  intro ls H locs cells slots hl hrep hS hc1 hc2
  simp only [o_ineg] at h
  split at h
  · skip
    exact lv_ineg hx hb d (hK _ _ _ _ _ h ls H locs cells slots hl hrep hS hc1 hc2)
  · exact h.elim
def o_ladd : Op := fun lv st f bc bs K _ _ _ => match st with | .long y :: .long x :: r => K lv (.long (x + y) :: r) f bc bs | _ => False
theorem ok_ladd {M : MI} {pc : Nat} (d : decode M.2.1 pc = .ok (.ladd, 1)) : OpOk M pc 1 o_ladd := by
  intro C Q X hC K hK B' hB lv st f bc bs h
  obtain ⟨⟨g, MC, MS⟩, ⟨p, l, e, R⟩, ⟨s, m, args, below, meth, c⟩, Qf⟩ := C
  obtain ⟨hx, hb, hml, hown, hw, hlk, hE, hst, hR, hex, hin, hrt, hQ, hgl⟩ := hC
  intro ls H locs cells slots hl hrep hS hc1 hc2
  simp only [o_ladd] at h
  split at h
  · skip
    exact lv_ladd hx hb d (hK _ _ _ _ _ h ls H locs cells slots hl hrep hS hc1 hc2)
  · exact h.elim
def o_lcmp : Op := fun lv st f bc bs K _ _ _ => match st with | .long y :: .long x :: r => K lv (.int (lg_cmp x y) :: r) f bc bs | _ => False
theorem ok_lcmp {M : MI} {pc : Nat} (d : decode M.2.1 pc = .ok (.lcmp, 1)) : OpOk M pc 1 o_lcmp := by
  intro C Q X hC K hK B' hB lv st f bc bs h
  obtain ⟨⟨g, MC, MS⟩, ⟨p, l, e, R⟩, ⟨s, m, args, below, meth, c⟩, Qf⟩ := C
  obtain ⟨hx, hb, hml, hown, hw, hlk, hE, hst, hR, hex, hin, hrt, hQ, hgl⟩ := hC
  intro ls H locs cells slots hl hrep hS hc1 hc2
  simp only [o_lcmp] at h
  split at h
  · skip
    exact W.lcmp hx hb d (hK _ _ _ _ _ h ls H locs cells slots hl hrep hS hc1 hc2)
  · exact h.elim
def o_i2l : Op := fun lv st f bc bs K _ _ _ => match st with | .int x :: r => K lv (.long x.toInt64 :: r) f bc bs | _ => False
theorem ok_i2l {M : MI} {pc : Nat} (d : decode M.2.1 pc = .ok (.i2l, 1)) : OpOk M pc 1 o_i2l := by
  intro C Q X hC K hK B' hB lv st f bc bs h
  obtain ⟨⟨g, MC, MS⟩, ⟨p, l, e, R⟩, ⟨s, m, args, below, meth, c⟩, Qf⟩ := C
  obtain ⟨hx, hb, hml, hown, hw, hlk, hE, hst, hR, hex, hin, hrt, hQ, hgl⟩ := hC
  intro ls H locs cells slots hl hrep hS hc1 hc2
  simp only [o_i2l] at h
  split at h
  · skip
    exact lv_i2l hx hb d rfl (hK _ _ _ _ _ h ls H locs cells slots hl hrep hS hc1 hc2)
  · exact h.elim
def o_i2c : Op := fun lv st f bc bs K _ _ _ => match st with | .int x :: r => K lv (.int (x.toUInt32 % 65536).toInt32 :: r) f bc bs | _ => False
theorem ok_i2c {M : MI} {pc : Nat} (d : decode M.2.1 pc = .ok (.i2c, 1)) : OpOk M pc 1 o_i2c := by
  intro C Q X hC K hK B' hB lv st f bc bs h
  obtain ⟨⟨g, MC, MS⟩, ⟨p, l, e, R⟩, ⟨s, m, args, below, meth, c⟩, Qf⟩ := C
  obtain ⟨hx, hb, hml, hown, hw, hlk, hE, hst, hR, hex, hin, hrt, hQ, hgl⟩ := hC
  intro ls H locs cells slots hl hrep hS hc1 hc2
  simp only [o_i2c] at h
  split at h
  · skip
    exact lv_i2c hx hb d rfl (hK _ _ _ _ _ h ls H locs cells slots hl hrep hS hc1 hc2)
  · exact h.elim
def o_i2d : Op := fun lv st f bc bs K _ _ _ => match st with | .int x :: r => K lv (.double (FP.i2d x) :: r) f bc bs | _ => False
theorem ok_i2d {M : MI} {pc : Nat} (d : decode M.2.1 pc = .ok (.i2d, 1)) : OpOk M pc 1 o_i2d := by
  intro C Q X hC K hK B' hB lv st f bc bs h
  obtain ⟨⟨g, MC, MS⟩, ⟨p, l, e, R⟩, ⟨s, m, args, below, meth, c⟩, Qf⟩ := C
  obtain ⟨hx, hb, hml, hown, hw, hlk, hE, hst, hR, hex, hin, hrt, hQ, hgl⟩ := hC
  intro ls H locs cells slots hl hrep hS hc1 hc2
  simp only [o_i2d] at h
  split at h
  · skip
    exact lv_i2d hx hb d (hK _ _ _ _ _ h ls H locs cells slots hl hrep hS hc1 hc2)
  · exact h.elim
def o_i2f : Op := fun lv st f bc bs K _ _ _ => match st with | .int x :: r => K lv (.float (FP.i2f x) :: r) f bc bs | _ => False
theorem ok_i2f {M : MI} {pc : Nat} (d : decode M.2.1 pc = .ok (.i2f, 1)) : OpOk M pc 1 o_i2f := by
  intro C Q X hC K hK B' hB lv st f bc bs h
  obtain ⟨⟨g, MC, MS⟩, ⟨p, l, e, R⟩, ⟨s, m, args, below, meth, c⟩, Qf⟩ := C
  obtain ⟨hx, hb, hml, hown, hw, hlk, hE, hst, hR, hex, hin, hrt, hQ, hgl⟩ := hC
  intro ls H locs cells slots hl hrep hS hc1 hc2
  simp only [o_i2f] at h
  split at h
  · skip
    exact lv_i2f hx hb d (hK _ _ _ _ _ h ls H locs cells slots hl hrep hS hc1 hc2)
  · exact h.elim
def o_l2f : Op := fun lv st f bc bs K _ _ _ => match st with | .long x :: r => K lv (.float (FP.l2f x) :: r) f bc bs | _ => False
theorem ok_l2f {M : MI} {pc : Nat} (d : decode M.2.1 pc = .ok (.l2f, 1)) : OpOk M pc 1 o_l2f := by
  intro C Q X hC K hK B' hB lv st f bc bs h
  obtain ⟨⟨g, MC, MS⟩, ⟨p, l, e, R⟩, ⟨s, m, args, below, meth, c⟩, Qf⟩ := C
  obtain ⟨hx, hb, hml, hown, hw, hlk, hE, hst, hR, hex, hin, hrt, hQ, hgl⟩ := hC
  intro ls H locs cells slots hl hrep hS hc1 hc2
  simp only [o_l2f] at h
  split at h
  · skip
    exact lv_l2f hx hb d (hK _ _ _ _ _ h ls H locs cells slots hl hrep hS hc1 hc2)
  · exact h.elim
def o_f2d : Op := fun lv st f bc bs K _ _ _ => match st with | .float x :: r => vf_n64 (FP.f2d x) ∧ K lv (.double (FP.f2d x) :: r) f bc bs | _ => False
theorem ok_f2d {M : MI} {pc : Nat} (d : decode M.2.1 pc = .ok (.f2d, 1)) : OpOk M pc 1 o_f2d := by
  intro C Q X hC K hK B' hB lv st f bc bs h
  obtain ⟨⟨g, MC, MS⟩, ⟨p, l, e, R⟩, ⟨s, m, args, below, meth, c⟩, Qf⟩ := C
  obtain ⟨hx, hb, hml, hown, hw, hlk, hE, hst, hR, hex, hin, hrt, hQ, hgl⟩ := hC
  intro ls H locs cells slots hl hrep hS hc1 hc2
  simp only [o_f2d] at h
  split at h
  · obtain ⟨h0, h⟩ := h
    exact lv_f2d hx hb d h0 (hK _ _ _ _ _ h ls H locs cells slots hl hrep hS hc1 hc2)
  · exact h.elim
def o_fdiv : Op := fun lv st f bc bs K _ _ _ => match st with | .float y :: .float x :: r => vf_n32 (FP.fdiv x y) ∧ K lv (.float (FP.fdiv x y) :: r) f bc bs | _ => False
theorem ok_fdiv {M : MI} {pc : Nat} (d : decode M.2.1 pc = .ok (.fdiv, 1)) : OpOk M pc 1 o_fdiv := by
  intro C Q X hC K hK B' hB lv st f bc bs h
  obtain ⟨⟨g, MC, MS⟩, ⟨p, l, e, R⟩, ⟨s, m, args, below, meth, c⟩, Qf⟩ := C
  obtain ⟨hx, hb, hml, hown, hw, hlk, hE, hst, hR, hex, hin, hrt, hQ, hgl⟩ := hC
  intro ls H locs cells slots hl hrep hS hc1 hc2
  simp only [o_fdiv] at h
  split at h
  · obtain ⟨h0, h⟩ := h
    exact lv_fdiv hx hb d h0 (hK _ _ _ _ _ h ls H locs cells slots hl hrep hS hc1 hc2)
  · exact h.elim
def o_ddiv : Op := fun lv st f bc bs K _ _ _ => match st with | .double y :: .double x :: r => vf_n64 (FP.ddiv x y) ∧ K lv (.double (FP.ddiv x y) :: r) f bc bs | _ => False
theorem ok_ddiv {M : MI} {pc : Nat} (d : decode M.2.1 pc = .ok (.ddiv, 1)) : OpOk M pc 1 o_ddiv := by
  intro C Q X hC K hK B' hB lv st f bc bs h
  obtain ⟨⟨g, MC, MS⟩, ⟨p, l, e, R⟩, ⟨s, m, args, below, meth, c⟩, Qf⟩ := C
  obtain ⟨hx, hb, hml, hown, hw, hlk, hE, hst, hR, hex, hin, hrt, hQ, hgl⟩ := hC
  intro ls H locs cells slots hl hrep hS hc1 hc2
  simp only [o_ddiv] at h
  split at h
  · obtain ⟨h0, h⟩ := h
    exact lv_ddiv hx hb d h0 (hK _ _ _ _ _ h ls H locs cells slots hl hrep hS hc1 hc2)
  · exact h.elim
def o_dcmp_l : Op := fun lv st f bc bs K _ _ _ => match st with | .double y :: .double x :: r => K lv (.int (Op.cmpValue (FP.dcmp x y) .l) :: r) f bc bs | _ => False
theorem ok_dcmp_l {M : MI} {pc : Nat} (d : decode M.2.1 pc = .ok (.dcmp .l, 1)) : OpOk M pc 1 o_dcmp_l := by
  intro C Q X hC K hK B' hB lv st f bc bs h
  obtain ⟨⟨g, MC, MS⟩, ⟨p, l, e, R⟩, ⟨s, m, args, below, meth, c⟩, Qf⟩ := C
  obtain ⟨hx, hb, hml, hown, hw, hlk, hE, hst, hR, hex, hin, hrt, hQ, hgl⟩ := hC
  intro ls H locs cells slots hl hrep hS hc1 hc2
  simp only [o_dcmp_l] at h
  split at h
  · skip
    exact lv_dcmp hx hb d (hK _ _ _ _ _ h ls H locs cells slots hl hrep hS hc1 hc2)
  · exact h.elim
def o_fcmp_l : Op := fun lv st f bc bs K _ _ _ => match st with | .float y :: .float x :: r => K lv (.int (Op.cmpValue (FP.fcmp x y) .l) :: r) f bc bs | _ => False
theorem ok_fcmp_l {M : MI} {pc : Nat} (d : decode M.2.1 pc = .ok (.fcmp .l, 1)) : OpOk M pc 1 o_fcmp_l := by
  intro C Q X hC K hK B' hB lv st f bc bs h
  obtain ⟨⟨g, MC, MS⟩, ⟨p, l, e, R⟩, ⟨s, m, args, below, meth, c⟩, Qf⟩ := C
  obtain ⟨hx, hb, hml, hown, hw, hlk, hE, hst, hR, hex, hin, hrt, hQ, hgl⟩ := hC
  intro ls H locs cells slots hl hrep hS hc1 hc2
  simp only [o_fcmp_l] at h
  split at h
  · skip
    exact lv_fcmp hx hb d (hK _ _ _ _ _ h ls H locs cells slots hl hrep hS hc1 hc2)
  · exact h.elim
def o_dcmp_g : Op := fun lv st f bc bs K _ _ _ => match st with | .double y :: .double x :: r => K lv (.int (Op.cmpValue (FP.dcmp x y) .g) :: r) f bc bs | _ => False
theorem ok_dcmp_g {M : MI} {pc : Nat} (d : decode M.2.1 pc = .ok (.dcmp .g, 1)) : OpOk M pc 1 o_dcmp_g := by
  intro C Q X hC K hK B' hB lv st f bc bs h
  obtain ⟨⟨g, MC, MS⟩, ⟨p, l, e, R⟩, ⟨s, m, args, below, meth, c⟩, Qf⟩ := C
  obtain ⟨hx, hb, hml, hown, hw, hlk, hE, hst, hR, hex, hin, hrt, hQ, hgl⟩ := hC
  intro ls H locs cells slots hl hrep hS hc1 hc2
  simp only [o_dcmp_g] at h
  split at h
  · skip
    exact lv_dcmp hx hb d (hK _ _ _ _ _ h ls H locs cells slots hl hrep hS hc1 hc2)
  · exact h.elim
def o_fcmp_g : Op := fun lv st f bc bs K _ _ _ => match st with | .float y :: .float x :: r => K lv (.int (Op.cmpValue (FP.fcmp x y) .g) :: r) f bc bs | _ => False
theorem ok_fcmp_g {M : MI} {pc : Nat} (d : decode M.2.1 pc = .ok (.fcmp .g, 1)) : OpOk M pc 1 o_fcmp_g := by
  intro C Q X hC K hK B' hB lv st f bc bs h
  obtain ⟨⟨g, MC, MS⟩, ⟨p, l, e, R⟩, ⟨s, m, args, below, meth, c⟩, Qf⟩ := C
  obtain ⟨hx, hb, hml, hown, hw, hlk, hE, hst, hR, hex, hin, hrt, hQ, hgl⟩ := hC
  intro ls H locs cells slots hl hrep hS hc1 hc2
  simp only [o_fcmp_g] at h
  split at h
  · skip
    exact lv_fcmp hx hb d (hK _ _ _ _ _ h ls H locs cells slots hl hrep hS hc1 hc2)
  · exact h.elim
def o_push (v : Value) : Op := fun lv st f bc bs K _ _ _ => K lv (v :: st) f bc bs
theorem ok_iconst {M : MI} {pc : Nat} {n : Int} {v : Int32} (hv : Int32.ofInt n = v) (d : decode M.2.1 pc = .ok (.iconst n, 1)) : OpOk M pc 1 (o_push (.int v)) := by
  intro C Q X hC K hK B' hB lv st f bc bs h
  obtain ⟨⟨g, MC, MS⟩, ⟨p, l, e, R⟩, ⟨s, m, args, below, meth, c⟩, Qf⟩ := C
  obtain ⟨hx, hb, hml, hown, hw, hlk, hE, hst, hR, hex, hin, hrt, hQ, hgl⟩ := hC
  intro ls H locs cells slots hl hrep hS hc1 hc2
  exact lv_iconst hx hb d hv (hK _ _ _ _ _ h ls H locs cells slots hl hrep hS hc1 hc2)
theorem ok_bipush {M : MI} {pc : Nat} {n : Int} {v : Int32} (hv : (Int8.ofInt n).toInt32 = v) (d : decode M.2.1 pc = .ok (.bipush n, 2)) : OpOk M pc 2 (o_push (.int v)) := by
  intro C Q X hC K hK B' hB lv st f bc bs h
  obtain ⟨⟨g, MC, MS⟩, ⟨p, l, e, R⟩, ⟨s, m, args, below, meth, c⟩, Qf⟩ := C
  obtain ⟨hx, hb, hml, hown, hw, hlk, hE, hst, hR, hex, hin, hrt, hQ, hgl⟩ := hC
  intro ls H locs cells slots hl hrep hS hc1 hc2
  exact lv_bipush hx hb d hv (hK _ _ _ _ _ h ls H locs cells slots hl hrep hS hc1 hc2)
theorem ok_sipush {M : MI} {pc : Nat} {n : Int} {v : Int32} (hv : (Int16.ofInt n).toInt32 = v) (d : decode M.2.1 pc = .ok (.sipush n, 3)) : OpOk M pc 3 (o_push (.int v)) := by
  intro C Q X hC K hK B' hB lv st f bc bs h
  obtain ⟨⟨g, MC, MS⟩, ⟨p, l, e, R⟩, ⟨s, m, args, below, meth, c⟩, Qf⟩ := C
  obtain ⟨hx, hb, hml, hown, hw, hlk, hE, hst, hR, hex, hin, hrt, hQ, hgl⟩ := hC
  intro ls H locs cells slots hl hrep hS hc1 hc2
  exact lv_sipush hx hb d hv (hK _ _ _ _ _ h ls H locs cells slots hl hrep hS hc1 hc2)
theorem ok_lconst {M : MI} {pc : Nat} {n : Fin 2} {v : Int64} (hv : Int64.ofNat (n : Nat) = v) (d : decode M.2.1 pc = .ok (.lconst n, 1)) : OpOk M pc 1 (o_push (.long v)) := by
  intro C Q X hC K hK B' hB lv st f bc bs h
  obtain ⟨⟨g, MC, MS⟩, ⟨p, l, e, R⟩, ⟨s, m, args, below, meth, c⟩, Qf⟩ := C
  obtain ⟨hx, hb, hml, hown, hw, hlk, hE, hst, hR, hex, hin, hrt, hQ, hgl⟩ := hC
  intro ls H locs cells slots hl hrep hS hc1 hc2
  exact lv_lconst hx hb d hv (hK _ _ _ _ _ h ls H locs cells slots hl hrep hS hc1 hc2)
theorem ok_dconst0 {M : MI} {pc : Nat}  (d : decode M.2.1 pc = .ok (.dconst 0, 1)) : OpOk M pc 1 (o_push (.double FP.dconst0)) := by
  intro C Q X hC K hK B' hB lv st f bc bs h
  obtain ⟨⟨g, MC, MS⟩, ⟨p, l, e, R⟩, ⟨s, m, args, below, meth, c⟩, Qf⟩ := C
  obtain ⟨hx, hb, hml, hown, hw, hlk, hE, hst, hR, hex, hin, hrt, hQ, hgl⟩ := hC
  intro ls H locs cells slots hl hrep hS hc1 hc2
  exact lv_dconst0 hx hb d (hK _ _ _ _ _ h ls H locs cells slots hl hrep hS hc1 hc2)
theorem ok_fconst0 {M : MI} {pc : Nat}  (d : decode M.2.1 pc = .ok (.fconst 0, 1)) : OpOk M pc 1 (o_push (.float FP.fconst0)) := by
  intro C Q X hC K hK B' hB lv st f bc bs h
  obtain ⟨⟨g, MC, MS⟩, ⟨p, l, e, R⟩, ⟨s, m, args, below, meth, c⟩, Qf⟩ := C
  obtain ⟨hx, hb, hml, hown, hw, hlk, hE, hst, hR, hex, hin, hrt, hQ, hgl⟩ := hC
  intro ls H locs cells slots hl hrep hS hc1 hc2
  exact lv_fconst0 hx hb d (hK _ _ _ _ _ h ls H locs cells slots hl hrep hS hc1 hc2)
theorem ok_ldc {M : MI} {pc : Nat} {i : Nat} {v : Int32} (hm : Cond.constant M.1 i v ∈ lw_tbl) (d : decode M.2.1 pc = .ok (.ldc i, 2)) : OpOk M pc 2 (o_push (.int v)) := by
  intro C Q X hC K hK B' hB lv st f bc bs h
  obtain ⟨⟨g, MC, MS⟩, ⟨p, l, e, R⟩, ⟨s, m, args, below, meth, c⟩, Qf⟩ := C
  obtain ⟨hx, hb, hml, hown, hw, hlk, hE, hst, hR, hex, hin, hrt, hQ, hgl⟩ := hC
  intro ls H locs cells slots hl hrep hS hc1 hc2
  exact lv_ldc hx hb hown (hw _ hm rfl) d (hK _ _ _ _ _ h ls H locs cells slots hl hrep hS hc1 hc2)
def o_iload (i : Nat) : Op := fun lv st f bc bs K _ _ _ => match lget lv i with | some (.int x) => K lv (.int x :: st) f bc bs | _ => False
def o_fload (i : Nat) : Op := fun lv st f bc bs K _ _ _ => match lget lv i with | some (.float x) => K lv (.float x :: st) f bc bs | _ => False
def o_dload (i : Nat) : Op := fun lv st f bc bs K _ _ _ => match lget lv i with | some (.double x) => K lv (.double x :: st) f bc bs | _ => False
def o_aload (i : Nat) : Op := fun lv st f bc bs K _ _ _ => match lget lv i with | some (.ref x) => K lv (.ref x :: st) f bc bs | _ => False
theorem ok_iload {M : MI} {pc i : Nat} (d : decode M.2.1 pc = .ok (.iload i, 2)) : OpOk M pc 2 (o_iload i) := by
  intro C Q X hC K hK B' hB lv st f bc bs h
  obtain ⟨⟨g, MC, MS⟩, ⟨p, l, e, R⟩, ⟨s, m, args, below, meth, c⟩, Qf⟩ := C
  obtain ⟨hx, hb, hml, hown, hw, hlk, hE, hst, hR, hex, hin, hrt, hQ, hgl⟩ := hC
  intro ls H locs cells slots hl hrep hS hc1 hc2
  simp only [o_iload] at h
  split at h
  · next e1 => exact lv_iload hx hb d (hl.at e1) (hK _ _ _ _ _ h ls H locs cells slots hl hrep hS hc1 hc2)
  · exact h.elim
theorem ok_iload_n {M : MI} {pc : Nat} {i : Nat} {k : Fin 4} (d : decode M.2.1 pc = .ok (.iload_n k, 1)) (hi : (k : Nat) = i) : OpOk M pc 1 (o_iload i) := by
  intro C Q X hC K hK B' hB lv st f bc bs h
  obtain ⟨⟨g, MC, MS⟩, ⟨p, l, e, R⟩, ⟨s, m, args, below, meth, c⟩, Qf⟩ := C
  obtain ⟨hx, hb, hml, hown, hw, hlk, hE, hst, hR, hex, hin, hrt, hQ, hgl⟩ := hC
  intro ls H locs cells slots hl hrep hS hc1 hc2
  simp only [o_iload] at h
  split at h
  · next e1 => exact lv_iload_n hx hb d hi (hl.at e1) (hK _ _ _ _ _ h ls H locs cells slots hl hrep hS hc1 hc2)
  · exact h.elim
theorem ok_fload {M : MI} {pc i : Nat} (d : decode M.2.1 pc = .ok (.fload i, 2)) : OpOk M pc 2 (o_fload i) := by
  intro C Q X hC K hK B' hB lv st f bc bs h
  obtain ⟨⟨g, MC, MS⟩, ⟨p, l, e, R⟩, ⟨s, m, args, below, meth, c⟩, Qf⟩ := C
  obtain ⟨hx, hb, hml, hown, hw, hlk, hE, hst, hR, hex, hin, hrt, hQ, hgl⟩ := hC
  intro ls H locs cells slots hl hrep hS hc1 hc2
  simp only [o_fload] at h
  split at h
  · next e1 => exact lv_fload hx hb d (hl.at e1) (hK _ _ _ _ _ h ls H locs cells slots hl hrep hS hc1 hc2)
  · exact h.elim
theorem ok_fload_n {M : MI} {pc : Nat} {i : Nat} {k : Fin 4} (d : decode M.2.1 pc = .ok (.fload_n k, 1)) (hi : (k : Nat) = i) : OpOk M pc 1 (o_fload i) := by
  intro C Q X hC K hK B' hB lv st f bc bs h
  obtain ⟨⟨g, MC, MS⟩, ⟨p, l, e, R⟩, ⟨s, m, args, below, meth, c⟩, Qf⟩ := C
  obtain ⟨hx, hb, hml, hown, hw, hlk, hE, hst, hR, hex, hin, hrt, hQ, hgl⟩ := hC
  intro ls H locs cells slots hl hrep hS hc1 hc2
  simp only [o_fload] at h
  split at h
  · next e1 => exact lv_fload_n hx hb d hi (hl.at e1) (hK _ _ _ _ _ h ls H locs cells slots hl hrep hS hc1 hc2)
  · exact h.elim
theorem ok_dload {M : MI} {pc i : Nat} (d : decode M.2.1 pc = .ok (.dload i, 2)) : OpOk M pc 2 (o_dload i) := by
  intro C Q X hC K hK B' hB lv st f bc bs h
  obtain ⟨⟨g, MC, MS⟩, ⟨p, l, e, R⟩, ⟨s, m, args, below, meth, c⟩, Qf⟩ := C
  obtain ⟨hx, hb, hml, hown, hw, hlk, hE, hst, hR, hex, hin, hrt, hQ, hgl⟩ := hC
  intro ls H locs cells slots hl hrep hS hc1 hc2
  simp only [o_dload] at h
  split at h
  · next e1 => exact lv_dload hx hb d (hl.at e1) (hK _ _ _ _ _ h ls H locs cells slots hl hrep hS hc1 hc2)
  · exact h.elim
theorem ok_dload_n {M : MI} {pc : Nat} {i : Nat} {k : Fin 4} (d : decode M.2.1 pc = .ok (.dload_n k, 1)) (hi : (k : Nat) = i) : OpOk M pc 1 (o_dload i) := by
  intro C Q X hC K hK B' hB lv st f bc bs h
  obtain ⟨⟨g, MC, MS⟩, ⟨p, l, e, R⟩, ⟨s, m, args, below, meth, c⟩, Qf⟩ := C
  obtain ⟨hx, hb, hml, hown, hw, hlk, hE, hst, hR, hex, hin, hrt, hQ, hgl⟩ := hC
  intro ls H locs cells slots hl hrep hS hc1 hc2
  simp only [o_dload] at h
  split at h
  · next e1 => exact lv_dload_n hx hb d hi (hl.at e1) (hK _ _ _ _ _ h ls H locs cells slots hl hrep hS hc1 hc2)
  · exact h.elim
theorem ok_aload {M : MI} {pc i : Nat} (d : decode M.2.1 pc = .ok (.aload i, 2)) : OpOk M pc 2 (o_aload i) := by
  intro C Q X hC K hK B' hB lv st f bc bs h
  obtain ⟨⟨g, MC, MS⟩, ⟨p, l, e, R⟩, ⟨s, m, args, below, meth, c⟩, Qf⟩ := C
  obtain ⟨hx, hb, hml, hown, hw, hlk, hE, hst, hR, hex, hin, hrt, hQ, hgl⟩ := hC
  intro ls H locs cells slots hl hrep hS hc1 hc2
  simp only [o_aload] at h
  split at h
  · next e1 => exact lv_aload hx hb d (hl.at e1) (hK _ _ _ _ _ h ls H locs cells slots hl hrep hS hc1 hc2)
  · exact h.elim
theorem ok_aload_n {M : MI} {pc : Nat} {i : Nat} {k : Fin 4} (d : decode M.2.1 pc = .ok (.aload_n k, 1)) (hi : (k : Nat) = i) : OpOk M pc 1 (o_aload i) := by
  intro C Q X hC K hK B' hB lv st f bc bs h
  obtain ⟨⟨g, MC, MS⟩, ⟨p, l, e, R⟩, ⟨s, m, args, below, meth, c⟩, Qf⟩ := C
  obtain ⟨hx, hb, hml, hown, hw, hlk, hE, hst, hR, hex, hin, hrt, hQ, hgl⟩ := hC
  intro ls H locs cells slots hl hrep hS hc1 hc2
  simp only [o_aload] at h
  split at h
  · next e1 => exact lv_aload_n hx hb d hi (hl.at e1) (hK _ _ _ _ _ h ls H locs cells slots hl hrep hS hc1 hc2)
  · exact h.elim
def o_istore (i : Nat) : Op := fun lv st f bc bs K _ _ _ => match st with | .int x :: r => K (lset lv i (.int x)) r f bc bs | _ => False
theorem ok_istore {M : MI} {pc i : Nat} (hn : i < M.2.2.1) (d : decode M.2.1 pc = .ok (.istore i, 2)) : OpOk M pc 2 (o_istore i) := by
  intro C Q X hC K hK B' hB lv st f bc bs h
  obtain ⟨⟨g, MC, MS⟩, ⟨p, l, e, R⟩, ⟨s, m, args, below, meth, c⟩, Qf⟩ := C
  obtain ⟨hx, hb, hml, hown, hw, hlk, hE, hst, hR, hex, hin, hrt, hQ, hgl⟩ := hC
  intro ls H locs cells slots hl hrep hS hc1 hc2
  simp only [o_istore] at h
  split at h
  · exact lv_istore hx hb d hl hn rfl (fun ls' hl' => hK _ _ _ _ _ h ls' H locs cells slots (LH.set hl') hrep hS hc1 hc2)
  · exact h.elim
theorem ok_istore_n {M : MI} {pc i : Nat} {k : Fin 4} (hi : (k : Nat) = i) (hn : i < M.2.2.1) (d : decode M.2.1 pc = .ok (.istore_n k, 1)) : OpOk M pc 1 (o_istore i) := by
  intro C Q X hC K hK B' hB lv st f bc bs h
  obtain ⟨⟨g, MC, MS⟩, ⟨p, l, e, R⟩, ⟨s, m, args, below, meth, c⟩, Qf⟩ := C
  obtain ⟨hx, hb, hml, hown, hw, hlk, hE, hst, hR, hex, hin, hrt, hQ, hgl⟩ := hC
  intro ls H locs cells slots hl hrep hS hc1 hc2
  simp only [o_istore] at h
  split at h
  · exact lv_istore_n hx hb d hi hl hn rfl (fun ls' hl' => hK _ _ _ _ _ h ls' H locs cells slots (LH.set hl') hrep hS hc1 hc2)
  · exact h.elim
def o_fstore (i : Nat) : Op := fun lv st f bc bs K _ _ _ => match st with | .float x :: r => K (lset lv i (.float x)) r f bc bs | _ => False
theorem ok_fstore {M : MI} {pc i : Nat} (hn : i < M.2.2.1) (d : decode M.2.1 pc = .ok (.fstore i, 2)) : OpOk M pc 2 (o_fstore i) := by
  intro C Q X hC K hK B' hB lv st f bc bs h
  obtain ⟨⟨g, MC, MS⟩, ⟨p, l, e, R⟩, ⟨s, m, args, below, meth, c⟩, Qf⟩ := C
  obtain ⟨hx, hb, hml, hown, hw, hlk, hE, hst, hR, hex, hin, hrt, hQ, hgl⟩ := hC
  intro ls H locs cells slots hl hrep hS hc1 hc2
  simp only [o_fstore] at h
  split at h
  · exact lv_fstore hx hb d hl hn rfl (fun ls' hl' => hK _ _ _ _ _ h ls' H locs cells slots (LH.set hl') hrep hS hc1 hc2)
  · exact h.elim
theorem ok_fstore_n {M : MI} {pc i : Nat} {k : Fin 4} (hi : (k : Nat) = i) (hn : i < M.2.2.1) (d : decode M.2.1 pc = .ok (.fstore_n k, 1)) : OpOk M pc 1 (o_fstore i) := by
  intro C Q X hC K hK B' hB lv st f bc bs h
  obtain ⟨⟨g, MC, MS⟩, ⟨p, l, e, R⟩, ⟨s, m, args, below, meth, c⟩, Qf⟩ := C
  obtain ⟨hx, hb, hml, hown, hw, hlk, hE, hst, hR, hex, hin, hrt, hQ, hgl⟩ := hC
  intro ls H locs cells slots hl hrep hS hc1 hc2
  simp only [o_fstore] at h
  split at h
  · exact lv_fstore_n hx hb d hi hl hn rfl (fun ls' hl' => hK _ _ _ _ _ h ls' H locs cells slots (LH.set hl') hrep hS hc1 hc2)
  · exact h.elim
def o_astore (i : Nat) : Op := fun lv st f bc bs K _ _ _ => match st with | .ref x :: r => K (lset lv i (.ref x)) r f bc bs | _ => False
theorem ok_astore {M : MI} {pc i : Nat} (hn : i < M.2.2.1) (d : decode M.2.1 pc = .ok (.astore i, 2)) : OpOk M pc 2 (o_astore i) := by
  intro C Q X hC K hK B' hB lv st f bc bs h
  obtain ⟨⟨g, MC, MS⟩, ⟨p, l, e, R⟩, ⟨s, m, args, below, meth, c⟩, Qf⟩ := C
  obtain ⟨hx, hb, hml, hown, hw, hlk, hE, hst, hR, hex, hin, hrt, hQ, hgl⟩ := hC
  intro ls H locs cells slots hl hrep hS hc1 hc2
  simp only [o_astore] at h
  split at h
  · exact lv_astore hx hb d hl hn rfl (fun ls' hl' => hK _ _ _ _ _ h ls' H locs cells slots (LH.set hl') hrep hS hc1 hc2)
  · exact h.elim
theorem ok_astore_n {M : MI} {pc i : Nat} {k : Fin 4} (hi : (k : Nat) = i) (hn : i < M.2.2.1) (d : decode M.2.1 pc = .ok (.astore_n k, 1)) : OpOk M pc 1 (o_astore i) := by
  intro C Q X hC K hK B' hB lv st f bc bs h
  obtain ⟨⟨g, MC, MS⟩, ⟨p, l, e, R⟩, ⟨s, m, args, below, meth, c⟩, Qf⟩ := C
  obtain ⟨hx, hb, hml, hown, hw, hlk, hE, hst, hR, hex, hin, hrt, hQ, hgl⟩ := hC
  intro ls H locs cells slots hl hrep hS hc1 hc2
  simp only [o_astore] at h
  split at h
  · exact lv_astore_n hx hb d hi hl hn rfl (fun ls' hl' => hK _ _ _ _ _ h ls' H locs cells slots (LH.set hl') hrep hS hc1 hc2)
  · exact h.elim
def lset2 (lv : LV) (i : Nat) (v : Value) : LV := (lset lv i v).mapIdx (fun j x => if j = i + 1 then none else x)
def o_iinc (i : Nat) (v : Int32) : Op := fun lv st f bc bs K _ _ _ => match lget lv i with | some (.int x) => K (lset lv i (.int (x + v))) st f bc bs | _ => False
theorem ok_iinc {M : MI} {pc i : Nat} {n : Int} {v : Int32} (hv : Int32.ofInt n = v) (hn : i < M.2.2.1) (d : decode M.2.1 pc = .ok (.iinc i n, 3)) : OpOk M pc 3 (o_iinc i v) := by
  intro C Q X hC K hK B' hB lv st f bc bs h
  obtain ⟨⟨g, MC, MS⟩, ⟨p, l, e, R⟩, ⟨s, m, args, below, meth, c⟩, Qf⟩ := C
  obtain ⟨hx, hb, hml, hown, hw, hlk, hE, hst, hR, hex, hin, hrt, hQ, hgl⟩ := hC
  intro ls H locs cells slots hl hrep hS hc1 hc2
  simp only [o_iinc] at h
  split at h
  · next x e1 =>
    have hm := (las_mem lv 0 i _).mpr ⟨Nat.zero_le _, e1⟩
    obtain ⟨k, hk⟩ := List.getElem?_of_mem hm
    exact lv_iinc (v := x + v) hx hb d hl hk (by rw [hv]) hn rfl (fun ls' hl' => hK _ _ _ _ _ h ls' H locs cells slots (LH.set hl') hrep hS hc1 hc2)
  · exact h.elim
def o_ifeq (t : Nat) : Op := fun lv st f bc bs K B _ _ => match st with | .int x :: r => (x = 0 → B t lv r f bc bs) ∧ (¬ (x = 0) → K lv r f bc bs) | _ => False
theorem ok_ifeq {M : MI} {pc t : Nat} {o : Int} (ht : (pc : Int) + o = (t : Int)) (d : decode M.2.1 pc = .ok (.ifCond .eq o, 3)) : OpOk M pc 3 (o_ifeq t) := by
  intro C Q X hC K hK B' hB lv st f bc bs h
  obtain ⟨⟨g, MC, MS⟩, ⟨p, l, e, R⟩, ⟨s, m, args, below, meth, c⟩, Qf⟩ := C
  obtain ⟨hx, hb, hml, hown, hw, hlk, hE, hst, hR, hex, hin, hrt, hQ, hgl⟩ := hC
  intro ls H locs cells slots hl hrep hS hc1 hc2
  simp only [o_ifeq] at h
  split at h
  · exact lv_if_eq hx hb d ht (fun q => hB _ _ _ _ _ _ (h.1 q) ls H locs cells slots hl hrep hS hc1 hc2) (fun q => hK _ _ _ _ _ (h.2 q) ls H locs cells slots hl hrep hS hc1 hc2)
  · exact h.elim
def o_iceq (t : Nat) : Op := fun lv st f bc bs K B _ _ => match st with | .int y :: .int x :: r => (x = y → B t lv r f bc bs) ∧ (¬ (x = y) → K lv r f bc bs) | _ => False
theorem ok_iceq {M : MI} {pc t : Nat} {o : Int} (ht : (pc : Int) + o = (t : Int)) (d : decode M.2.1 pc = .ok (.if_icmp .eq o, 3)) : OpOk M pc 3 (o_iceq t) := by
  intro C Q X hC K hK B' hB lv st f bc bs h
  obtain ⟨⟨g, MC, MS⟩, ⟨p, l, e, R⟩, ⟨s, m, args, below, meth, c⟩, Qf⟩ := C
  obtain ⟨hx, hb, hml, hown, hw, hlk, hE, hst, hR, hex, hin, hrt, hQ, hgl⟩ := hC
  intro ls H locs cells slots hl hrep hS hc1 hc2
  simp only [o_iceq] at h
  split at h
  · exact lv_icmp_eq hx hb d ht (fun q => hB _ _ _ _ _ _ (h.1 q) ls H locs cells slots hl hrep hS hc1 hc2) (fun q => hK _ _ _ _ _ (h.2 q) ls H locs cells slots hl hrep hS hc1 hc2)
  · exact h.elim
def o_ifne (t : Nat) : Op := fun lv st f bc bs K B _ _ => match st with | .int x :: r => (¬ x = 0 → B t lv r f bc bs) ∧ (x = 0 → K lv r f bc bs) | _ => False
theorem ok_ifne {M : MI} {pc t : Nat} {o : Int} (ht : (pc : Int) + o = (t : Int)) (d : decode M.2.1 pc = .ok (.ifCond .ne o, 3)) : OpOk M pc 3 (o_ifne t) := by
  intro C Q X hC K hK B' hB lv st f bc bs h
  obtain ⟨⟨g, MC, MS⟩, ⟨p, l, e, R⟩, ⟨s, m, args, below, meth, c⟩, Qf⟩ := C
  obtain ⟨hx, hb, hml, hown, hw, hlk, hE, hst, hR, hex, hin, hrt, hQ, hgl⟩ := hC
  intro ls H locs cells slots hl hrep hS hc1 hc2
  simp only [o_ifne] at h
  split at h
  · exact lv_if_ne hx hb d ht (fun q => hB _ _ _ _ _ _ (h.1 q) ls H locs cells slots hl hrep hS hc1 hc2) (fun q => hK _ _ _ _ _ (h.2 q) ls H locs cells slots hl hrep hS hc1 hc2)
  · exact h.elim
def o_icne (t : Nat) : Op := fun lv st f bc bs K B _ _ => match st with | .int y :: .int x :: r => (¬ x = y → B t lv r f bc bs) ∧ (x = y → K lv r f bc bs) | _ => False
theorem ok_icne {M : MI} {pc t : Nat} {o : Int} (ht : (pc : Int) + o = (t : Int)) (d : decode M.2.1 pc = .ok (.if_icmp .ne o, 3)) : OpOk M pc 3 (o_icne t) := by
  intro C Q X hC K hK B' hB lv st f bc bs h
  obtain ⟨⟨g, MC, MS⟩, ⟨p, l, e, R⟩, ⟨s, m, args, below, meth, c⟩, Qf⟩ := C
  obtain ⟨hx, hb, hml, hown, hw, hlk, hE, hst, hR, hex, hin, hrt, hQ, hgl⟩ := hC
  intro ls H locs cells slots hl hrep hS hc1 hc2
  simp only [o_icne] at h
  split at h
  · exact lv_icmp_ne hx hb d ht (fun q => hB _ _ _ _ _ _ (h.1 q) ls H locs cells slots hl hrep hS hc1 hc2) (fun q => hK _ _ _ _ _ (h.2 q) ls H locs cells slots hl hrep hS hc1 hc2)
  · exact h.elim
def o_iflt (t : Nat) : Op := fun lv st f bc bs K B _ _ => match st with | .int x :: r => (x < 0 → B t lv r f bc bs) ∧ (¬ (x < 0) → K lv r f bc bs) | _ => False
theorem ok_iflt {M : MI} {pc t : Nat} {o : Int} (ht : (pc : Int) + o = (t : Int)) (d : decode M.2.1 pc = .ok (.ifCond .lt o, 3)) : OpOk M pc 3 (o_iflt t) := by
  intro C Q X hC K hK B' hB lv st f bc bs h
  obtain ⟨⟨g, MC, MS⟩, ⟨p, l, e, R⟩, ⟨s, m, args, below, meth, c⟩, Qf⟩ := C
  obtain ⟨hx, hb, hml, hown, hw, hlk, hE, hst, hR, hex, hin, hrt, hQ, hgl⟩ := hC
  intro ls H locs cells slots hl hrep hS hc1 hc2
  simp only [o_iflt] at h
  split at h
  · exact lv_if_lt hx hb d ht (fun q => hB _ _ _ _ _ _ (h.1 q) ls H locs cells slots hl hrep hS hc1 hc2) (fun q => hK _ _ _ _ _ (h.2 q) ls H locs cells slots hl hrep hS hc1 hc2)
  · exact h.elim
def o_iclt (t : Nat) : Op := fun lv st f bc bs K B _ _ => match st with | .int y :: .int x :: r => (x < y → B t lv r f bc bs) ∧ (¬ (x < y) → K lv r f bc bs) | _ => False
theorem ok_iclt {M : MI} {pc t : Nat} {o : Int} (ht : (pc : Int) + o = (t : Int)) (d : decode M.2.1 pc = .ok (.if_icmp .lt o, 3)) : OpOk M pc 3 (o_iclt t) := by
  intro C Q X hC K hK B' hB lv st f bc bs h
  obtain ⟨⟨g, MC, MS⟩, ⟨p, l, e, R⟩, ⟨s, m, args, below, meth, c⟩, Qf⟩ := C
  obtain ⟨hx, hb, hml, hown, hw, hlk, hE, hst, hR, hex, hin, hrt, hQ, hgl⟩ := hC
  intro ls H locs cells slots hl hrep hS hc1 hc2
  simp only [o_iclt] at h
  split at h
  · exact lv_icmp_lt hx hb d ht (fun q => hB _ _ _ _ _ _ (h.1 q) ls H locs cells slots hl hrep hS hc1 hc2) (fun q => hK _ _ _ _ _ (h.2 q) ls H locs cells slots hl hrep hS hc1 hc2)
  · exact h.elim
def o_ifge (t : Nat) : Op := fun lv st f bc bs K B _ _ => match st with | .int x :: r => (0 ≤ x → B t lv r f bc bs) ∧ (¬ (0 ≤ x) → K lv r f bc bs) | _ => False
theorem ok_ifge {M : MI} {pc t : Nat} {o : Int} (ht : (pc : Int) + o = (t : Int)) (d : decode M.2.1 pc = .ok (.ifCond .ge o, 3)) : OpOk M pc 3 (o_ifge t) := by
  intro C Q X hC K hK B' hB lv st f bc bs h
  obtain ⟨⟨g, MC, MS⟩, ⟨p, l, e, R⟩, ⟨s, m, args, below, meth, c⟩, Qf⟩ := C
  obtain ⟨hx, hb, hml, hown, hw, hlk, hE, hst, hR, hex, hin, hrt, hQ, hgl⟩ := hC
  intro ls H locs cells slots hl hrep hS hc1 hc2
  simp only [o_ifge] at h
  split at h
  · exact lv_if_ge hx hb d ht (fun q => hB _ _ _ _ _ _ (h.1 q) ls H locs cells slots hl hrep hS hc1 hc2) (fun q => hK _ _ _ _ _ (h.2 q) ls H locs cells slots hl hrep hS hc1 hc2)
  · exact h.elim
def o_icge (t : Nat) : Op := fun lv st f bc bs K B _ _ => match st with | .int y :: .int x :: r => (y ≤ x → B t lv r f bc bs) ∧ (¬ (y ≤ x) → K lv r f bc bs) | _ => False
theorem ok_icge {M : MI} {pc t : Nat} {o : Int} (ht : (pc : Int) + o = (t : Int)) (d : decode M.2.1 pc = .ok (.if_icmp .ge o, 3)) : OpOk M pc 3 (o_icge t) := by
  intro C Q X hC K hK B' hB lv st f bc bs h
  obtain ⟨⟨g, MC, MS⟩, ⟨p, l, e, R⟩, ⟨s, m, args, below, meth, c⟩, Qf⟩ := C
  obtain ⟨hx, hb, hml, hown, hw, hlk, hE, hst, hR, hex, hin, hrt, hQ, hgl⟩ := hC
  intro ls H locs cells slots hl hrep hS hc1 hc2
  simp only [o_icge] at h
  split at h
  · exact lv_icmp_ge hx hb d ht (fun q => hB _ _ _ _ _ _ (h.1 q) ls H locs cells slots hl hrep hS hc1 hc2) (fun q => hK _ _ _ _ _ (h.2 q) ls H locs cells slots hl hrep hS hc1 hc2)
  · exact h.elim
def o_ifgt (t : Nat) : Op := fun lv st f bc bs K B _ _ => match st with | .int x :: r => (0 < x → B t lv r f bc bs) ∧ (¬ (0 < x) → K lv r f bc bs) | _ => False
theorem ok_ifgt {M : MI} {pc t : Nat} {o : Int} (ht : (pc : Int) + o = (t : Int)) (d : decode M.2.1 pc = .ok (.ifCond .gt o, 3)) : OpOk M pc 3 (o_ifgt t) := by
  intro C Q X hC K hK B' hB lv st f bc bs h
  obtain ⟨⟨g, MC, MS⟩, ⟨p, l, e, R⟩, ⟨s, m, args, below, meth, c⟩, Qf⟩ := C
  obtain ⟨hx, hb, hml, hown, hw, hlk, hE, hst, hR, hex, hin, hrt, hQ, hgl⟩ := hC
  intro ls H locs cells slots hl hrep hS hc1 hc2
  simp only [o_ifgt] at h
  split at h
  · exact lv_if_gt hx hb d ht (fun q => hB _ _ _ _ _ _ (h.1 q) ls H locs cells slots hl hrep hS hc1 hc2) (fun q => hK _ _ _ _ _ (h.2 q) ls H locs cells slots hl hrep hS hc1 hc2)
  · exact h.elim
def o_icgt (t : Nat) : Op := fun lv st f bc bs K B _ _ => match st with | .int y :: .int x :: r => (y < x → B t lv r f bc bs) ∧ (¬ (y < x) → K lv r f bc bs) | _ => False
theorem ok_icgt {M : MI} {pc t : Nat} {o : Int} (ht : (pc : Int) + o = (t : Int)) (d : decode M.2.1 pc = .ok (.if_icmp .gt o, 3)) : OpOk M pc 3 (o_icgt t) := by
  intro C Q X hC K hK B' hB lv st f bc bs h
  obtain ⟨⟨g, MC, MS⟩, ⟨p, l, e, R⟩, ⟨s, m, args, below, meth, c⟩, Qf⟩ := C
  obtain ⟨hx, hb, hml, hown, hw, hlk, hE, hst, hR, hex, hin, hrt, hQ, hgl⟩ := hC
  intro ls H locs cells slots hl hrep hS hc1 hc2
  simp only [o_icgt] at h
  split at h
  · exact lv_icmp_gt hx hb d ht (fun q => hB _ _ _ _ _ _ (h.1 q) ls H locs cells slots hl hrep hS hc1 hc2) (fun q => hK _ _ _ _ _ (h.2 q) ls H locs cells slots hl hrep hS hc1 hc2)
  · exact h.elim
def o_ifle (t : Nat) : Op := fun lv st f bc bs K B _ _ => match st with | .int x :: r => (x ≤ 0 → B t lv r f bc bs) ∧ (¬ (x ≤ 0) → K lv r f bc bs) | _ => False
theorem ok_ifle {M : MI} {pc t : Nat} {o : Int} (ht : (pc : Int) + o = (t : Int)) (d : decode M.2.1 pc = .ok (.ifCond .le o, 3)) : OpOk M pc 3 (o_ifle t) := by
  intro C Q X hC K hK B' hB lv st f bc bs h
  obtain ⟨⟨g, MC, MS⟩, ⟨p, l, e, R⟩, ⟨s, m, args, below, meth, c⟩, Qf⟩ := C
  obtain ⟨hx, hb, hml, hown, hw, hlk, hE, hst, hR, hex, hin, hrt, hQ, hgl⟩ := hC
  intro ls H locs cells slots hl hrep hS hc1 hc2
  simp only [o_ifle] at h
  split at h
  · exact lv_if_le hx hb d ht (fun q => hB _ _ _ _ _ _ (h.1 q) ls H locs cells slots hl hrep hS hc1 hc2) (fun q => hK _ _ _ _ _ (h.2 q) ls H locs cells slots hl hrep hS hc1 hc2)
  · exact h.elim
def o_icle (t : Nat) : Op := fun lv st f bc bs K B _ _ => match st with | .int y :: .int x :: r => (x ≤ y → B t lv r f bc bs) ∧ (¬ (x ≤ y) → K lv r f bc bs) | _ => False
theorem ok_icle {M : MI} {pc t : Nat} {o : Int} (ht : (pc : Int) + o = (t : Int)) (d : decode M.2.1 pc = .ok (.if_icmp .le o, 3)) : OpOk M pc 3 (o_icle t) := by
  intro C Q X hC K hK B' hB lv st f bc bs h
  obtain ⟨⟨g, MC, MS⟩, ⟨p, l, e, R⟩, ⟨s, m, args, below, meth, c⟩, Qf⟩ := C
  obtain ⟨hx, hb, hml, hown, hw, hlk, hE, hst, hR, hex, hin, hrt, hQ, hgl⟩ := hC
  intro ls H locs cells slots hl hrep hS hc1 hc2
  simp only [o_icle] at h
  split at h
  · exact lv_icmp_le hx hb d ht (fun q => hB _ _ _ _ _ _ (h.1 q) ls H locs cells slots hl hrep hS hc1 hc2) (fun q => hK _ _ _ _ _ (h.2 q) ls H locs cells slots hl hrep hS hc1 hc2)
  · exact h.elim
def o_goto (t : Nat) : Op := fun lv st f bc bs _ B _ _ => B t lv st f bc bs
theorem ok_goto {M : MI} {pc t : Nat} {o : Int} (ht : (pc : Int) + o = (t : Int)) (d : decode M.2.1 pc = .ok (.goto o, 3)) : OpOk M pc 3 (o_goto t) := by
  intro C Q X hC K hK B' hB lv st f bc bs h
  obtain ⟨⟨g, MC, MS⟩, ⟨p, l, e, R⟩, ⟨s, m, args, below, meth, c⟩, Qf⟩ := C
  obtain ⟨hx, hb, hml, hown, hw, hlk, hE, hst, hR, hex, hin, hrt, hQ, hgl⟩ := hC
  intro ls H locs cells slots hl hrep hS hc1 hc2
  exact lv_goto hx hb d ht (hB _ _ _ _ _ _ h ls H locs cells slots hl hrep hS hc1 hc2)
def c1 : Value → Bool
  | .long _ => false
  | .double _ => false
  | _ => true
theorem c1_cat {v : Value} (h : c1 v = true) : v.category = 1 := by
  cases v <;> first | rfl | (simp [c1] at h)
def o_dup : Op := fun lv st f bc bs K _ _ _ => match st with | v :: r => c1 v = true ∧ K lv (v :: v :: r) f bc bs | _ => False
theorem ok_dup {M : MI} {pc : Nat} (d : decode M.2.1 pc = .ok (.dup, 1)) : OpOk M pc 1 o_dup := by
  intro C Q X hC K hK B' hB lv st f bc bs h
  obtain ⟨⟨g, MC, MS⟩, ⟨p, l, e, R⟩, ⟨s, m, args, below, meth, c⟩, Qf⟩ := C
  obtain ⟨hx, hb, hml, hown, hw, hlk, hE, hst, hR, hex, hin, hrt, hQ, hgl⟩ := hC
  intro ls H locs cells slots hl hrep hS hc1 hc2
  simp only [o_dup] at h
  split at h
  · obtain ⟨h0, h⟩ := h
    exact lv_dup hx hb d (c1_cat h0) (hK _ _ _ _ _ h ls H locs cells slots hl hrep hS hc1 hc2)
  · exact h.elim
def o_pop : Op := fun lv st f bc bs K _ _ _ => match st with | v :: r => c1 v = true ∧ K lv (r) f bc bs | _ => False
theorem ok_pop {M : MI} {pc : Nat} (d : decode M.2.1 pc = .ok (.pop, 1)) : OpOk M pc 1 o_pop := by
  intro C Q X hC K hK B' hB lv st f bc bs h
  obtain ⟨⟨g, MC, MS⟩, ⟨p, l, e, R⟩, ⟨s, m, args, below, meth, c⟩, Qf⟩ := C
  obtain ⟨hx, hb, hml, hown, hw, hlk, hE, hst, hR, hex, hin, hrt, hQ, hgl⟩ := hC
  intro ls H locs cells slots hl hrep hS hc1 hc2
  simp only [o_pop] at h
  split at h
  · obtain ⟨h0, h⟩ := h
    exact lv_pop hx hb d (c1_cat h0) (hK _ _ _ _ _ h ls H locs cells slots hl hrep hS hc1 hc2)
  · exact h.elim
def o_dup_x1 : Op := fun lv st f bc bs K _ _ _ => match st with | v :: w :: r => (c1 v = true ∧ c1 w = true) ∧ K lv (v :: w :: v :: r) f bc bs | _ => False
theorem ok_dup_x1 {M : MI} {pc : Nat} (d : decode M.2.1 pc = .ok (.dup_x1, 1)) : OpOk M pc 1 o_dup_x1 := by
  intro C Q X hC K hK B' hB lv st f bc bs h
  obtain ⟨⟨g, MC, MS⟩, ⟨p, l, e, R⟩, ⟨s, m, args, below, meth, c⟩, Qf⟩ := C
  obtain ⟨hx, hb, hml, hown, hw, hlk, hE, hst, hR, hex, hin, hrt, hQ, hgl⟩ := hC
  intro ls H locs cells slots hl hrep hS hc1 hc2
  simp only [o_dup_x1] at h
  split at h
  · obtain ⟨h0, h⟩ := h
    exact lv_dup_x1 hx hb d (c1_cat h0.1) (c1_cat h0.2) (hK _ _ _ _ _ h ls H locs cells slots hl hrep hS hc1 hc2)
  · exact h.elim
def o_dup2 : Op := fun lv st f bc bs K _ _ _ => match st with | v :: w :: r => (c1 v = true ∧ c1 w = true) ∧ K lv (v :: w :: v :: w :: r) f bc bs | _ => False
theorem ok_dup2 {M : MI} {pc : Nat} (d : decode M.2.1 pc = .ok (.dup2, 1)) : OpOk M pc 1 o_dup2 := by
  intro C Q X hC K hK B' hB lv st f bc bs h
  obtain ⟨⟨g, MC, MS⟩, ⟨p, l, e, R⟩, ⟨s, m, args, below, meth, c⟩, Qf⟩ := C
  obtain ⟨hx, hb, hml, hown, hw, hlk, hE, hst, hR, hex, hin, hrt, hQ, hgl⟩ := hC
  intro ls H locs cells slots hl hrep hS hc1 hc2
  simp only [o_dup2] at h
  split at h
  · obtain ⟨h0, h⟩ := h
    exact lv_dup2_11 hx hb d (c1_cat h0.1) (c1_cat h0.2) (hK _ _ _ _ _ h ls H locs cells slots hl hrep hS hc1 hc2)
  · exact h.elim
