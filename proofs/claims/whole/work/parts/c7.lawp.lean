-- deps: c1.law0 85c.call8
/-! ===== the law's own body: blocks where the script stands by ===== -/
abbrev Scr : Type := Nat × Nat × (Nat → Int32)
def PS (z : Scr) : Cx → Prop := fun C => match C with
  | ((g, _, _), _, (s, _, _, _, _, _), _) => va_X z.1 z.2.1 z.2.2 s s.heap ∧ z.1 < s.heap.size ∧ ¬ Ag g z.1
def OpOkP (M : MI) (P : Cx → Prop) (pc n : Nat) (o : Op) : Prop := ∀ (C : Cx) (Q : Option Value → AH → Prop) (X : String → AH → Prop), CxOk M C Q X → P C → ∀ (K : Kx), (∀ lv st f bc bs, K lv st f bc bs → Blm C M.2.2.1 (pc + n) lv st f bc bs) → ∀ (B' : Bx), (∀ pc lv st f bc bs, B' pc lv st f bc bs → Blm C M.2.2.1 pc lv st f bc bs) → ∀ lv st f bc bs, o lv st f bc bs K B' Q X → Blm C M.2.2.1 pc lv st f bc bs
theorem OpOk.p {M : MI} {P : Cx → Prop} {pc n : Nat} {o : Op} (h : OpOk M pc n o) : OpOkP M P pc n o := fun C Q X hC _ => h C Q X hC
def BlkOkP (M : MI) (P : Cx → Prop) : Nat → Blk → Prop
  | _, [] => True
  | pc, (n, o) :: r => OpOkP M P pc n o ∧ BlkOkP M P (pc + n) r
theorem BlkOkP.run {M : MI} {P : Cx → Prop} {C : Cx} {Q : Option Value → AH → Prop} {X : String → AH → Prop} (hC : CxOk M C Q X) (hP : P C) {B' : Bx} (hB : ∀ pc lv st f bc bs, B' pc lv st f bc bs → Blm C M.2.2.1 pc lv st f bc bs) : ∀ (b : Blk) (pc : Nat), BlkOkP M P pc b → ∀ lv st f bc bs, wpL b pc lv st f bc bs B' Q X → Blm C M.2.2.1 pc lv st f bc bs
  | [], _, _, _, _, _, _, _, h => hB _ _ _ _ _ _ h
  | (n, o) :: r, pc, hb, lv, st, f, bc, bs, h => hb.1 C Q X hC hP _ (fun lv st f bc bs hk => BlkOkP.run hC hP hB r (pc + n) hb.2 lv st f bc bs hk) B' hB lv st f bc bs h
def inS (z : Scr) (i : Int32) : Prop := vp_in i z.2.1
abbrev sc (z : Scr) (i : Int32) : Int32 := z.2.2 i.toNatClampNeg
def o_sld (z : Scr) : Op := fun lv st f bc bs K _ _ _ => match st with | .int i :: .ref a :: r => a = z.1 ∧ inS z i ∧ K lv (.int (sc z i) :: r) f bc bs | _ => False
theorem ok_sld {M : MI} {pc : Nat} {z : Scr} (d : decode M.2.1 pc = .ok (.iaload, 1)) : OpOkP M (PS z) pc 1 (o_sld z) := by
  intro C Q X hC hP K hK B' hB lv st f bc bs h
  obtain ⟨⟨g, MC, MS⟩, ⟨p, l, e, R⟩, ⟨s, m, args, below, meth, c⟩, Qf⟩ := C
  obtain ⟨hx, hb, hml, hown, hw, hlk, hE, hst, hR, hex, hin, hrt, hQ, hgl⟩ := hC
  intro ls H locs cells slots hl hrep hS hc1 hc2
  simp only [o_sld] at h
  split at h
  · obtain ⟨rfl, h1, h⟩ := h
    exact va_sld hx hb hP.1 hP.2.1 hP.2.2 hS h1 d (hK _ _ _ _ _ h ls H locs cells slots hl hrep hS hc1 hc2)
  · exact h.elim
def o_sln (z : Scr) : Op := fun lv st f bc bs K _ _ _ => match st with | .ref a :: r => a = z.1 ∧ K lv (.int (nI z.2.1) :: r) f bc bs | _ => False
theorem ok_sln {M : MI} {pc : Nat} {z : Scr} (d : decode M.2.1 pc = .ok (.arraylength, 1)) : OpOkP M (PS z) pc 1 (o_sln z) := by
  intro C Q X hC hP K hK B' hB lv st f bc bs h
  obtain ⟨⟨g, MC, MS⟩, ⟨p, l, e, R⟩, ⟨s, m, args, below, meth, c⟩, Qf⟩ := C
  obtain ⟨hx, hb, hml, hown, hw, hlk, hE, hst, hR, hex, hin, hrt, hQ, hgl⟩ := hC
  intro ls H locs cells slots hl hrep hS hc1 hc2
  simp only [o_sln] at h
  split at h
  · obtain ⟨rfl, h⟩ := h
    exact va_slen hx hb hP.1 hP.2.1 hP.2.2 hS d (hK _ _ _ _ _ h ls H locs cells slots hl hrep hS hc1 hc2)
  · exact h.elim
theorem e_sld (z : Scr) (lv : LV) (i : Int32) (a : Nat) (r : List Value) (f : AH) (bc bs : Nat) (K : Kx) (B : Bx) (Q : Option Value → AH → Prop) (X : String → AH → Prop) : o_sld z lv (.int i :: .ref a :: r) f bc bs K B Q X = (a = z.1 ∧ inS z i ∧ K lv (.int (sc z i) :: r) f bc bs) := (rfl)
theorem e_sln (z : Scr) (lv : LV) (a : Nat) (r : List Value) (f : AH) (bc bs : Nat) (K : Kx) (B : Bx) (Q : Option Value → AH → Prop) (X : String → AH → Prop) : o_sln z lv (.ref a :: r) f bc bs K B Q X = (a = z.1 ∧ K lv (.int (nI z.2.1) :: r) f bc bs) := (rfl)
/-- a double into two locals -/
def lset3 (lv : LV) (i : Nat) (v : Value) : LV := (lset lv i v).take (i + 1) ++ none :: lv.drop (i + 2)
theorem lget_app : ∀ (a b : LV) (j : Nat), lget (a ++ b) j = if j < a.length then lget a j else lget b (j - a.length)
  | [], b, j => by rw [List.nil_append, List.length_nil, if_neg (Nat.not_lt_zero _), Nat.sub_zero]
  | x :: r, b, 0 => by rw [List.cons_append, List.length_cons, if_pos (Nat.zero_lt_succ _)]; rfl
  | x :: r, b, j + 1 => by
    have := lget_app r b j
    rw [List.cons_append, List.length_cons, show lget (x :: (r ++ b)) (j + 1) = lget (r ++ b) j from rfl, this, show lget (x :: r) (j + 1) = lget r j from rfl]
    by_cases h : j < r.length
    · rw [if_pos h, if_pos (by omega)]
    · rw [if_neg h, if_neg (by omega), show j + 1 - (r.length + 1) = j - r.length by omega]
theorem lget_take : ∀ (a : LV) (k j : Nat) (w : Value), lget (a.take k) j = some w → lget a j = some w ∧ j < k
  | [], k, j, w, h => by rw [List.take_nil] at h; cases h
  | x :: r, 0, j, w, h => by rw [List.take_zero] at h; cases h
  | x :: r, k + 1, 0, w, h => ⟨h, Nat.zero_lt_succ _⟩
  | x :: r, k + 1, j + 1, w, h => by
    obtain ⟨h1, h2⟩ := lget_take r k j w h
    exact ⟨h1, by omega⟩
theorem lget_drop : ∀ (a : LV) (k j : Nat), lget (a.drop k) j = lget a (j + k)
  | [], k, j => by rw [List.drop_nil]; rfl
  | x :: r, 0, j => by rw [List.drop_zero, Nat.add_zero]
  | x :: r, k + 1, j => by rw [List.drop_succ_cons, lget_drop r k j]; rfl
theorem lset_len : ∀ (lv : LV) (i : Nat) (v : Value), (lset lv i v).length = lv.length
  | [], _, _ => rfl
  | _ :: r, 0, v => rfl
  | x :: r, 1, v => by show (lset r 0 v).length + 1 = _; rw [lset_len r 0 v]; rfl
  | x :: r, n + 2, v => by show (lset r (n + 1) v).length + 1 = _; rw [lset_len r (n + 1) v]; rfl
theorem lset3_get {lv : LV} {i j : Nat} {v w : Value} (hlen : i + 1 < lv.length) (h : lget (lset3 lv i v) j = some w) : (j = i ∧ w = v) ∨ (j ≠ i ∧ j ≠ i + 1 ∧ lget lv j = some w ∧ (j + 1 = i → lclr (some w) = some w)) := by
  have hl : ((lset lv i v).take (i + 1)).length = i + 1 := by rw [List.length_take, lset_len]; omega
  rw [lset3, lget_app, hl] at h
  by_cases hj : j < i + 1
  · rw [if_pos hj] at h
    obtain ⟨h1, -⟩ := lget_take _ _ _ _ h
    rcases lset_get lv i j v w h1 with ⟨a, b⟩ | ⟨a, b, c⟩
    · exact .inl ⟨a, b⟩
    · exact .inr ⟨a, by omega, b, c⟩
  · rw [if_neg hj] at h
    by_cases e : j = i + 1
    · rw [e, Nat.sub_self] at h
      cases h
    · rw [show j - (i + 1) = (j - (i + 2)) + 1 by omega, show lget (none :: lv.drop (i + 2)) (j - (i + 2) + 1) = lget (lv.drop (i + 2)) (j - (i + 2)) from rfl, lget_drop, show j - (i + 2) + (i + 2) = j by omega] at h
      exact .inr ⟨by omega, e, h, by omega⟩
theorem LH.set3 {nL : Nat} {ls' : Array Slot} {lv : LV} {i : Nat} {v : Value} (hlen : i + 1 < lv.length) (h : lv_has ls' nL ((i, v) :: (las 0 lv).filter (fun q => !(q.1 == i) && (!(q.1 == i + 1) && !(q.1 + 1 == i && q.2.category == 2))))) : LH nL ls' (lset3 lv i v) := by
  refine ⟨h.1, h.2.1, fun q hq => h.2.2 q ?_⟩
  obtain ⟨j, w⟩ := q
  obtain ⟨-, hg⟩ := (las_mem _ 0 j w).mp hq
  rcases lset3_get hlen hg with ⟨rfl, rfl⟩ | ⟨h1, h4, h2, h3⟩
  · exact List.mem_cons_self
  · refine List.mem_cons_of_mem _ (List.mem_filter.mpr ⟨(las_mem lv 0 j w).mpr ⟨Nat.zero_le _, h2⟩, ?_⟩)
    by_cases e : j + 1 = i
    · have := lclr_cat (h3 e)
      simp only [Bool.and_eq_true, Bool.not_eq_true', beq_eq_false_iff_ne, ne_eq]
      exact ⟨h1, h4, by simp [this]⟩
    · simp only [Bool.and_eq_true, Bool.not_eq_true', beq_eq_false_iff_ne, ne_eq]
      exact ⟨h1, h4, by simp [e]⟩
def o_dstore (i : Nat) : Op := fun lv st f bc bs K _ _ _ => match st with | .double x :: r => i + 1 < lv.length ∧ K (lset3 lv i (.double x)) r f bc bs | _ => False
theorem ok_dstore {M : MI} {pc i : Nat} (hn : i + 1 < M.2.2.1) (d : decode M.2.1 pc = .ok (.dstore i, 2)) : OpOk M pc 2 (o_dstore i) := by
  intro C Q X hC K hK B' hB lv st f bc bs h
  obtain ⟨⟨g, MC, MS⟩, ⟨p, l, e, R⟩, ⟨s, m, args, below, meth, c⟩, Qf⟩ := C
  obtain ⟨hx, hb, hml, hown, hw, hlk, hE, hst, hR, hex, hin, hrt, hQ, hgl⟩ := hC
  intro ls H locs cells slots hl hrep hS hc1 hc2
  simp only [o_dstore] at h
  split at h
  · exact lv_dstore hx hb d hl hn rfl (fun ls' hl' => hK _ _ _ _ _ h.2 ls' H locs cells slots (LH.set3 h.1 hl') hrep hS hc1 hc2)
  · exact h.elim
theorem e_dstore (i : Nat) (lv : LV) (x : UInt64) (r : List Value) (f : AH) (bc bs : Nat) (K : Kx) (B : Bx) (Q : Option Value → AH → Prop) (X : String → AH → Prop) : o_dstore i lv (.double x :: r) f bc bs K B Q X = (i + 1 < lv.length ∧ K (lset3 lv i (.double x)) r f bc bs) := (rfl)

