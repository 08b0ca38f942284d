/-! ===== operations on the heap ===== -/
def PH (_ : AH → Prop) : Type := Nat
/-- what follows upon a store: looked into only when the new heap has a name -/
def Sto (f' : AH) (K : AH → Prop) (_ : PH K) : Prop := ∀ f1 : AH, f1 = f' → K f1
def PHN (_ : Nat → AH → Prop) : Type := Nat
def Mak (f : AH) (c : AC) (K : Nat → AH → Prop) (_ : PHN K) : Prop := ∀ (q : Nat) (f1 : AH), f q = none → f1 = aup f q c → K q f1
def hobj (f : AH) (a ci : Nat) (k : List Value → Prop) : Prop := match f a with | some (.inr (c, fs)) => c = ci ∧ k fs | _ => False
theorem hobj_ex {f : AH} {a ci : Nat} {k : List Value → Prop} (h : hobj f a ci k) : ∃ fs, f a = some (.inr (ci, fs)) ∧ k fs := by
  unfold hobj at h
  split at h
  · next c fs e => exact ⟨fs, by rw [e, h.1], h.2⟩
  · exact h.elim
def hAI (f : AH) (a kd : Nat) (k : Nat → (Nat → Int32) → Prop) : Prop := match f a with | some (.inl (c, n, .inl arr)) => c = kd ∧ k n arr | _ => False
def hAL (f : AH) (a kd : Nat) (k : Nat → (Nat → Int64) → Prop) : Prop := match f a with | some (.inl (c, n, .inr (.inl arr))) => c = kd ∧ k n arr | _ => False
def hAD (f : AH) (a kd : Nat) (k : Nat → (Nat → UInt64) → Prop) : Prop := match f a with | some (.inl (c, n, .inr (.inr (.inr (.inl arr))))) => c = kd ∧ k n arr | _ => False
def hAR (f : AH) (a kd : Nat) (k : Nat → (Nat → Option Nat) → Prop) : Prop := match f a with | some (.inl (c, n, .inr (.inr (.inr (.inr arr))))) => c = kd ∧ k n arr | _ => False
theorem hAI_ex {f : AH} {a kd : Nat} {k : Nat → (Nat → Int32) → Prop} (h : hAI f a kd k) : ∃ n arr, f a = some (.inl (kd, n, .inl arr)) ∧ k n arr := by
  unfold hAI at h
  split at h
  · next c n arr e => exact ⟨n, arr, by rw [e, h.1], h.2⟩
  · exact h.elim
theorem hAL_ex {f : AH} {a kd : Nat} {k : Nat → (Nat → Int64) → Prop} (h : hAL f a kd k) : ∃ n arr, f a = some (.inl (kd, n, .inr (.inl arr))) ∧ k n arr := by
  unfold hAL at h
  split at h
  · next c n arr e => exact ⟨n, arr, by rw [e, h.1], h.2⟩
  · exact h.elim
theorem hAD_ex {f : AH} {a kd : Nat} {k : Nat → (Nat → UInt64) → Prop} (h : hAD f a kd k) : ∃ n arr, f a = some (.inl (kd, n, .inr (.inr (.inr (.inl arr))))) ∧ k n arr := by
  unfold hAD at h
  split at h
  · next c n arr e => exact ⟨n, arr, by rw [e, h.1], h.2⟩
  · exact h.elim
theorem hAR_ex {f : AH} {a kd : Nat} {k : Nat → (Nat → Option Nat) → Prop} (h : hAR f a kd k) : ∃ n arr, f a = some (.inl (kd, n, .inr (.inr (.inr (.inr arr))))) ∧ k n arr := by
  unfold hAR at h
  split at h
  · next c n arr e => exact ⟨n, arr, by rw [e, h.1], h.2⟩
  · exact h.elim
theorem hobj_c {f : AH} {a ci : Nat} {fs : List Value} (h : f a = some (.inr (ci, fs))) (k : List Value → Prop) : hobj f a ci k = k fs := by simp [hobj, h]
theorem hAI_c {f : AH} {a kd n : Nat} {arr : Nat → Int32} (h : f a = some (.inl (kd, n, .inl arr))) (k : Nat → (Nat → Int32) → Prop) : hAI f a kd k = k n arr := by simp [hAI, h]
theorem hAL_c {f : AH} {a kd n : Nat} {arr : Nat → Int64} (h : f a = some (.inl (kd, n, .inr (.inl arr)))) (k : Nat → (Nat → Int64) → Prop) : hAL f a kd k = k n arr := by simp [hAL, h]
theorem hAD_c {f : AH} {a kd n : Nat} {arr : Nat → UInt64} (h : f a = some (.inl (kd, n, .inr (.inr (.inr (.inl arr)))))) (k : Nat → (Nat → UInt64) → Prop) : hAD f a kd k = k n arr := by simp [hAD, h]
theorem hAR_c {f : AH} {a kd n : Nat} {arr : Nat → Option Nat} (h : f a = some (.inl (kd, n, .inr (.inr (.inr (.inr arr)))))) (k : Nat → (Nat → Option Nat) → Prop) : hAR f a kd k = k n arr := by simp [hAR, h]
theorem vin_nI {j n : Nat} (h : j < n) (hj : j < 2147483648) : vp_in (nI j) n := by
  intro q
  rcases q with q | q
  · exact nI_pos hj q
  · rw [nI_clamp hj] at q
    omega
theorem clampN {j : Nat} (hj : j < 2147483648) : (nI j).toNatClampNeg = j := nI_clamp hj
def fget : List Value → Nat → Option Value
  | [], _ => none
  | v :: _, 0 => some v
  | _ :: r, n + 1 => fget r n
theorem fget_eq : ∀ (l : List Value) (k : Nat), fget l k = l[k]?
  | [], k => rfl
  | v :: r, 0 => rfl
  | v :: r, k + 1 => by rw [fget, fget_eq r k]; rfl
def fset : List Value → Nat → Value → List Value
  | [], _, _ => []
  | _ :: r, 0, v => v :: r
  | x :: r, n + 1, v => x :: fset r n v
theorem fset_eq : ∀ (l : List Value) (k : Nat) (v : Value), fset l k v = l.set k v
  | [], k, v => rfl
  | x :: r, 0, v => rfl
  | x :: r, k + 1, v => by rw [fset, fset_eq r k v]; rfl
theorem fget_lt {l : List Value} {k : Nat} {v : Value} (h : fget l k = some v) : k < l.length := by
  rw [fget_eq] at h
  exact (List.getElem?_eq_some_iff.mp h).1
/-- a class of the list, with its words -/
def ClsOk (ci : Nat) (r : vw_C) (ty : Nat → FieldType) : Prop := gcl[ci]? = some r ∧ (∀ w ∈ u_ws r.1 r.2.1 r.2.2, w ∈ lw_tbl ∧ kw w = true) ∧ (∀ k, k < r.2.2 → parseFieldDescriptor (r.2.1 k).2.2.1 = some (ty k)) ∧ (∀ a, a < r.2.2 → ∀ b, b < r.2.2 → a ≠ b → (r.2.1 a).2.1 ≠ (r.2.1 b).2.1)
theorem ClsOk.ws {ci : Nat} {r : vw_C} {ty : Nat → FieldType} (h : ClsOk ci r ty) {args : Array Value} {s : State} (hw : Wds args s) : ∀ w ∈ u_ws r.1 r.2.1 r.2.2, w.before args s = true := fun w hm => hw w (h.2.1 w hm).1 (h.2.1 w hm).2
def o_getf (ci k : Nat) : Op := fun lv st f bc bs K _ _ _ => match st with | .ref a :: r => hobj f a ci fun fs => (match fget fs k with | some v => K lv (v :: r) f bc bs | none => False) | _ => False
theorem ok_getf {M : MI} {pc i ci k : Nat} {r : vw_C} {ty : Nat → FieldType} {ref : String} (hc : ClsOk ci r ty) (hk : k < r.2.2) (hm : Cond.fieldLink M.1 i ref (r.2.1 k).2.1 (r.2.1 k).2.2.1 ∈ lw_tbl) (href : (r.2.1 k).1 = ref) (d : decode M.2.1 pc = .ok (.getfield i, 3)) : OpOk M pc 3 (o_getf ci k) := by
  intro C Q X hC K hK B' hB lv st f bc bs h
  obtain ⟨⟨g, MC, MS⟩, ⟨p, l, e, R⟩, ⟨s, m, args, below, meth, c⟩, Qf⟩ := C
  obtain ⟨hx, hb, hml, hown, hw, hlk, hE, hst, hR, hex, hin, hrt, hQ, hgl⟩ := hC
  intro ls H locs cells slots hl hrep hS hc1 hc2
  simp only [o_getf] at h
  split at h
  · obtain ⟨fs, hf, h⟩ := hobj_ex h
    split at h
    · next v e1 =>
      rw [fget_eq] at e1
      exact va_get (C := r.1) (T := r.2.1) (N := r.2.2) hx hb (hc.ws hw) (fun _ q => q) hown hE.1 (hrep.one hf) 0 rfl hc.1 k hk (hw _ hm rfl) (fun x q => href ▸ q) e1 d (hK _ _ _ _ _ h ls H locs cells slots hl hrep hS hc1 hc2)
    · exact h.elim
  · exact h.elim
theorem ok_getfN {M : MI} {pc i ci k : Nat} {r : vw_C} {ty : Nat → FieldType} {ref : String} {host : String} (hc : ClsOk ci r ty) (hk : k < r.2.2) (hm : Cond.fieldLinkNest M.1 i ref (r.2.1 k).2.1 (r.2.1 k).2.2.1 host ∈ lw_tbl) (href : (r.2.1 k).1 = ref) (d : decode M.2.1 pc = .ok (.getfield i, 3)) : OpOk M pc 3 (o_getf ci k) := by
  intro C Q X hC K hK B' hB lv st f bc bs h
  obtain ⟨⟨g, MC, MS⟩, ⟨p, l, e, R⟩, ⟨s, m, args, below, meth, c⟩, Qf⟩ := C
  obtain ⟨hx, hb, hml, hown, hw, hlk, hE, hst, hR, hex, hin, hrt, hQ, hgl⟩ := hC
  intro ls H locs cells slots hl hrep hS hc1 hc2
  simp only [o_getf] at h
  split at h
  · obtain ⟨fs, hf, h⟩ := hobj_ex h
    split at h
    · next v e1 =>
      rw [fget_eq] at e1
      exact va_getN (C := r.1) (T := r.2.1) (N := r.2.2) hx hb (hc.ws hw) (fun _ q => q) hown hE.1 (hrep.one hf) 0 rfl hc.1 k hk (hw _ hm rfl) (fun x q => href ▸ q) e1 d (hK _ _ _ _ _ h ls H locs cells slots hl hrep hS hc1 hc2)
    · exact h.elim
  · exact h.elim
theorem ok_getf_same {M : MI} {pc i ci k : Nat} {r : vw_C} {ty : Nat → FieldType} {ref : String} (hc : ClsOk ci r ty) (hk : k < r.2.2) (hm : Cond.fieldLink M.1 i ref (r.2.1 k).2.1 (r.2.1 k).2.2.1 ∈ lw_tbl) (hsm : Cond.sameField ref (r.2.1 k).1 (r.2.1 k).2.1 (r.2.1 k).2.2.1 ∈ lw_tbl) (d : decode M.2.1 pc = .ok (.getfield i, 3)) : OpOk M pc 3 (o_getf ci k) := by
  intro C Q X hC K hK B' hB lv st f bc bs h
  obtain ⟨⟨g, MC, MS⟩, ⟨p, l, e, R⟩, ⟨s, m, args, below, meth, c⟩, Qf⟩ := C
  obtain ⟨hx, hb, hml, hown, hw, hlk, hE, hst, hR, hex, hin, hrt, hQ, hgl⟩ := hC
  intro ls H locs cells slots hl hrep hS hc1 hc2
  simp only [o_getf] at h
  split at h
  · obtain ⟨fs, hf, h⟩ := hobj_ex h
    split at h
    · next v e1 =>
      rw [fget_eq] at e1
      exact va_get (C := r.1) (T := r.2.1) (N := r.2.2) hx hb (hc.ws hw) (fun _ q => q) hown hE.1 (hrep.one hf) 0 rfl hc.1 k hk (hw _ hm rfl) (fun x q => u_same (hw _ hsm rfl) x q) e1 d (hK _ _ _ _ _ h ls H locs cells slots hl hrep hS hc1 hc2)
    · exact h.elim
  · exact h.elim
def o_putI (ci k : Nat) : Op := fun lv st f bc bs K _ _ _ => match st with | .int x :: .ref a :: r => hobj f a ci fun fs => k < fs.length ∧ Sto (aup f a (.inr (ci, fset fs k (.int x)))) (fun f1 => K lv r f1 bc bs) (0 : Nat) | _ => False
theorem ok_putI {M : MI} {pc i ci k : Nat} {r : vw_C} {ty : Nat → FieldType} {ref : String} (hc : ClsOk ci r ty) (hk : k < r.2.2) (hm : Cond.fieldLink M.1 i ref (r.2.1 k).2.1 (r.2.1 k).2.2.1 ∈ lw_tbl) (href : (r.2.1 k).1 = ref) (hfin : (r.2.1 k).2.2.2 = false) (hty : ty k = .int) (d : decode M.2.1 pc = .ok (.putfield i, 3)) : OpOk M pc 3 (o_putI ci k) := by
  intro C Q X hC K hK B' hB lv st f bc bs h
  obtain ⟨⟨g, MC, MS⟩, ⟨p, l, e, R⟩, ⟨s, m, args, below, meth, c⟩, Qf⟩ := C
  obtain ⟨hx, hb, hml, hown, hw, hlk, hE, hst, hR, hex, hin, hrt, hQ, hgl⟩ := hC
  intro ls H locs cells slots hl hrep hS hc1 hc2
  simp only [o_putI] at h
  split at h
  · next x a st9 =>
    obtain ⟨fs, hf, hlen, h⟩ := hobj_ex h
    have hnar : narrow (ty k) (.int x) = .int x := by rw [hty]; rfl
    have hfit : fits (ty k) (.int x) = true := by rw [hty]; rfl
    have hap := va_apart (own := M.1) (C := r.1) (T := r.2.1) (N := r.2.2) (hc.ws hw) (fun _ q => q) ty hc.2.2.1 hc.2.2.2 hE.1 hc.1
    obtain ⟨r', h1, cell, q1, q2, q3, q4⟩ := (hrep a _ hf).1
    have hr : r' = r := Option.some.inj (h1.symm.trans hc.1)
    subst hr
    obtain ⟨hSl, hfc, kC, hkC, hkind⟩ := hE.1.1 ci _ hc.1
    obtain ⟨cf, kf, fi, fd, hi, hsl⟩ := hSl k hk
    have hlay := hc.ws hw _ (u_in_lay hk)
    unfold u_lay at hlay
    rw [if_neg (by rw [hfin]; decide)] at hlay
    have hst9 := (u_facts hfc hkC (u_lays (hc.ws hw) (fun _ q => q) hk) hi).1
    have h6 := u_store hfc hkC hkind hlay hi (hc.2.2.1 k hk) hnar hfit
    refine W.putK hx hb (f := fd) ⟨hown, hw _ hm rfl, ⟨_, _, _, href ▸ hi⟩, hst9⟩ (by rw [q2]; exact h6) q1 q3 (by rw [hsl]; exact k2_hasslot (q4 k hk)) rfl rfl d fun H' e1 e2 e3 => ?_
    rw [hsl] at e1 ⊢
    refine hK _ _ _ _ _ (h _ rfl) ls H' _ cells slots hl (hrep.up (hrep a _ hf).2 ⟨_, hc.1, ?_⟩ e3) (hS.put e2 e3 (hrep a _ hf).2) hc1 hc2
    rw [fset_eq]
    exact t_OB.to (V := updV (vp_V fs) k (.int x)) ⟨_, e1, q2, q3, t_set q4 hap hk _⟩ (fun j _ => vp_updV_set hlen _ j)
  · exact h.elim
theorem ok_putIN {M : MI} {pc i ci k : Nat} {r : vw_C} {ty : Nat → FieldType} {ref : String} {host : String} (hc : ClsOk ci r ty) (hk : k < r.2.2) (hm : Cond.fieldLinkNest M.1 i ref (r.2.1 k).2.1 (r.2.1 k).2.2.1 host ∈ lw_tbl) (href : (r.2.1 k).1 = ref) (hfin : (r.2.1 k).2.2.2 = false) (hty : ty k = .int) (d : decode M.2.1 pc = .ok (.putfield i, 3)) : OpOk M pc 3 (o_putI ci k) := by
  intro C Q X hC K hK B' hB lv st f bc bs h
  obtain ⟨⟨g, MC, MS⟩, ⟨p, l, e, R⟩, ⟨s, m, args, below, meth, c⟩, Qf⟩ := C
  obtain ⟨hx, hb, hml, hown, hw, hlk, hE, hst, hR, hex, hin, hrt, hQ, hgl⟩ := hC
  intro ls H locs cells slots hl hrep hS hc1 hc2
  simp only [o_putI] at h
  split at h
  · next x a st9 =>
    obtain ⟨fs, hf, hlen, h⟩ := hobj_ex h
    have hnar : narrow (ty k) (.int x) = .int x := by rw [hty]; rfl
    have hfit : fits (ty k) (.int x) = true := by rw [hty]; rfl
    have hap := va_apart (own := M.1) (C := r.1) (T := r.2.1) (N := r.2.2) (hc.ws hw) (fun _ q => q) ty hc.2.2.1 hc.2.2.2 hE.1 hc.1
    obtain ⟨r', h1, cell, q1, q2, q3, q4⟩ := (hrep a _ hf).1
    have hr : r' = r := Option.some.inj (h1.symm.trans hc.1)
    subst hr
    obtain ⟨hSl, hfc, kC, hkC, hkind⟩ := hE.1.1 ci _ hc.1
    obtain ⟨cf, kf, fi, fd, hi, hsl⟩ := hSl k hk
    have hlay := hc.ws hw _ (u_in_lay hk)
    unfold u_lay at hlay
    rw [if_neg (by rw [hfin]; decide)] at hlay
    have hst9 := (u_facts hfc hkC (u_lays (hc.ws hw) (fun _ q => q) hk) hi).1
    have h6 := u_store hfc hkC hkind hlay hi (hc.2.2.1 k hk) hnar hfit
    refine va_WputK hx hb (f := fd) hown (hw _ hm rfl) (href ▸ hi) hst9 (by rw [q2]; exact h6) q1 q3 (by rw [hsl]; exact k2_hasslot (q4 k hk)) rfl rfl d fun H' e1 e2 e3 => ?_
    rw [hsl] at e1 ⊢
    refine hK _ _ _ _ _ (h _ rfl) ls H' _ cells slots hl (hrep.up (hrep a _ hf).2 ⟨_, hc.1, ?_⟩ e3) (hS.put e2 e3 (hrep a _ hf).2) hc1 hc2
    rw [fset_eq]
    exact t_OB.to (V := updV (vp_V fs) k (.int x)) ⟨_, e1, q2, q3, t_set q4 hap hk _⟩ (fun j _ => vp_updV_set hlen _ j)
  · exact h.elim
theorem ok_putIF {M : MI} {pc i ci k : Nat} {r : vw_C} {ty : Nat → FieldType} {ref : String} (hc : ClsOk ci r ty) (hk : k < r.2.2) (hm : Cond.fieldLink M.1 i ref (r.2.1 k).2.1 (r.2.1 k).2.2.1 ∈ lw_tbl) (href : (r.2.1 k).1 = ref) (hfin : (r.2.1 k).2.2.2 = true) (hty : ty k = .int) (hio : M.2.2.2.2.2.1 = true) (hdl : (r.2.1 k).1 = M.1) (d : decode M.2.1 pc = .ok (.putfield i, 3)) : OpOk M pc 3 (o_putI ci k) := by
  intro C Q X hC K hK B' hB lv st f bc bs h
  obtain ⟨⟨g, MC, MS⟩, ⟨p, l, e, R⟩, ⟨s, m, args, below, meth, c⟩, Qf⟩ := C
  obtain ⟨hx, hb, hml, hown, hw, hlk, hE, hst, hR, hex, hin, hrt, hQ, hgl⟩ := hC
  intro ls H locs cells slots hl hrep hS hc1 hc2
  simp only [o_putI] at h
  split at h
  · next x a st9 =>
    obtain ⟨fs, hf, hlen, h⟩ := hobj_ex h
    have hnar : narrow (ty k) (.int x) = .int x := by rw [hty]; rfl
    have hfit : fits (ty k) (.int x) = true := by rw [hty]; rfl
    have hap := va_apart (own := M.1) (C := r.1) (T := r.2.1) (N := r.2.2) (hc.ws hw) (fun _ q => q) ty hc.2.2.1 hc.2.2.2 hE.1 hc.1
    obtain ⟨r', h1, cell, q1, q2, q3, q4⟩ := (hrep a _ hf).1
    have hr : r' = r := Option.some.inj (h1.symm.trans hc.1)
    subst hr
    obtain ⟨hSl, hfc, kC, hkC, hkind⟩ := hE.1.1 ci _ hc.1
    obtain ⟨cf, kf, fi, fd, hi, hsl⟩ := hSl k hk
    have hlay := hc.ws hw _ (u_in_lay hk)
    unfold u_lay at hlay
    rw [if_pos hfin] at hlay
    have hst9 := (u_facts hfc hkC (u_lays (hc.ws hw) (fun _ q => q) hk) hi).1
    have hcf : m.cls = cf := by
      obtain ⟨_, _, c', _, _, _, -, -, hf', -, -, -, hown2, -⟩ := Cond.laysFinal_spec hlay
      have e1 : c' = cf := by have := hi.symm.trans hf'; simp at this; exact this.1.symm
      rw [hdl] at hown2
      rw [← e1]; exact Option.some.inj (hown.symm.trans hown2)
    have h6 := u_fits hfc hkC hkind (Or.inr hlay) hi (hc.2.2.1 k hk) hnar hfit
    refine W.putFinK hx hb hown (hw _ hm rfl) (href ▸ hi) hst9 hcf (hin hio) (by rw [q2]; exact h6) q1 q3 (by rw [hsl]; exact k2_hasslot (q4 k hk)) rfl rfl d fun H' e1 e2 e3 => ?_
    rw [hsl] at e1 ⊢
    refine hK _ _ _ _ _ (h _ rfl) ls H' _ cells slots hl (hrep.up (hrep a _ hf).2 ⟨_, hc.1, ?_⟩ e3) (hS.put e2 e3 (hrep a _ hf).2) hc1 hc2
    rw [fset_eq]
    exact t_OB.to (V := updV (vp_V fs) k (.int x)) ⟨_, e1, q2, q3, t_set q4 hap hk _⟩ (fun j _ => vp_updV_set hlen _ j)
  · exact h.elim
theorem ok_putIS {M : MI} {pc i ci k : Nat} {r : vw_C} {ty : Nat → FieldType} {ref : String} (hc : ClsOk ci r ty) (hk : k < r.2.2) (hm : Cond.fieldLink M.1 i ref (r.2.1 k).2.1 (r.2.1 k).2.2.1 ∈ lw_tbl) (hsm : Cond.sameField ref (r.2.1 k).1 (r.2.1 k).2.1 (r.2.1 k).2.2.1 ∈ lw_tbl) (hfin : (r.2.1 k).2.2.2 = false) (hty : ty k = .int) (d : decode M.2.1 pc = .ok (.putfield i, 3)) : OpOk M pc 3 (o_putI ci k) := by
  intro C Q X hC K hK B' hB lv st f bc bs h
  obtain ⟨⟨g, MC, MS⟩, ⟨p, l, e, R⟩, ⟨s, m, args, below, meth, c⟩, Qf⟩ := C
  obtain ⟨hx, hb, hml, hown, hw, hlk, hE, hst, hR, hex, hin, hrt, hQ, hgl⟩ := hC
  intro ls H locs cells slots hl hrep hS hc1 hc2
  simp only [o_putI] at h
  split at h
  · next x a st9 =>
    obtain ⟨fs, hf, hlen, h⟩ := hobj_ex h
    have hnar : narrow (ty k) (.int x) = .int x := by rw [hty]; rfl
    have hfit : fits (ty k) (.int x) = true := by rw [hty]; rfl
    have hap := va_apart (own := M.1) (C := r.1) (T := r.2.1) (N := r.2.2) (hc.ws hw) (fun _ q => q) ty hc.2.2.1 hc.2.2.2 hE.1 hc.1
    obtain ⟨r', h1, cell, q1, q2, q3, q4⟩ := (hrep a _ hf).1
    have hr : r' = r := Option.some.inj (h1.symm.trans hc.1)
    subst hr
    obtain ⟨hSl, hfc, kC, hkC, hkind⟩ := hE.1.1 ci _ hc.1
    obtain ⟨cf, kf, fi, fd, hi, hsl⟩ := hSl k hk
    have hlay := hc.ws hw _ (u_in_lay hk)
    unfold u_lay at hlay
    rw [if_neg (by rw [hfin]; decide)] at hlay
    have hst9 := (u_facts hfc hkC (u_lays (hc.ws hw) (fun _ q => q) hk) hi).1
    have h6 := u_store hfc hkC hkind hlay hi (hc.2.2.1 k hk) hnar hfit
    refine W.putK hx hb (f := fd) ⟨hown, hw _ hm rfl, ⟨_, _, _, u_same (hw _ hsm rfl) _ hi⟩, hst9⟩ (by rw [q2]; exact h6) q1 q3 (by rw [hsl]; exact k2_hasslot (q4 k hk)) rfl rfl d fun H' e1 e2 e3 => ?_
    rw [hsl] at e1 ⊢
    refine hK _ _ _ _ _ (h _ rfl) ls H' _ cells slots hl (hrep.up (hrep a _ hf).2 ⟨_, hc.1, ?_⟩ e3) (hS.put e2 e3 (hrep a _ hf).2) hc1 hc2
    rw [fset_eq]
    exact t_OB.to (V := updV (vp_V fs) k (.int x)) ⟨_, e1, q2, q3, t_set q4 hap hk _⟩ (fun j _ => vp_updV_set hlen _ j)
  · exact h.elim
def o_putJ (ci k : Nat) : Op := fun lv st f bc bs K _ _ _ => match st with | .long x :: .ref a :: r => hobj f a ci fun fs => k < fs.length ∧ Sto (aup f a (.inr (ci, fset fs k (.long x)))) (fun f1 => K lv r f1 bc bs) (0 : Nat) | _ => False
theorem ok_putJ {M : MI} {pc i ci k : Nat} {r : vw_C} {ty : Nat → FieldType} {ref : String} (hc : ClsOk ci r ty) (hk : k < r.2.2) (hm : Cond.fieldLink M.1 i ref (r.2.1 k).2.1 (r.2.1 k).2.2.1 ∈ lw_tbl) (href : (r.2.1 k).1 = ref) (hfin : (r.2.1 k).2.2.2 = false) (hty : ty k = .long) (d : decode M.2.1 pc = .ok (.putfield i, 3)) : OpOk M pc 3 (o_putJ ci k) := by
  intro C Q X hC K hK B' hB lv st f bc bs h
  obtain ⟨⟨g, MC, MS⟩, ⟨p, l, e, R⟩, ⟨s, m, args, below, meth, c⟩, Qf⟩ := C
  obtain ⟨hx, hb, hml, hown, hw, hlk, hE, hst, hR, hex, hin, hrt, hQ, hgl⟩ := hC
  intro ls H locs cells slots hl hrep hS hc1 hc2
  simp only [o_putJ] at h
  split at h
  · next x a st9 =>
    obtain ⟨fs, hf, hlen, h⟩ := hobj_ex h
    have hnar : narrow (ty k) (.long x) = .long x := by rw [hty]; rfl
    have hfit : fits (ty k) (.long x) = true := by rw [hty]; rfl
    have hap := va_apart (own := M.1) (C := r.1) (T := r.2.1) (N := r.2.2) (hc.ws hw) (fun _ q => q) ty hc.2.2.1 hc.2.2.2 hE.1 hc.1
    obtain ⟨r', h1, cell, q1, q2, q3, q4⟩ := (hrep a _ hf).1
    have hr : r' = r := Option.some.inj (h1.symm.trans hc.1)
    subst hr
    obtain ⟨hSl, hfc, kC, hkC, hkind⟩ := hE.1.1 ci _ hc.1
    obtain ⟨cf, kf, fi, fd, hi, hsl⟩ := hSl k hk
    have hlay := hc.ws hw _ (u_in_lay hk)
    unfold u_lay at hlay
    rw [if_neg (by rw [hfin]; decide)] at hlay
    have hst9 := (u_facts hfc hkC (u_lays (hc.ws hw) (fun _ q => q) hk) hi).1
    have h6 := u_store hfc hkC hkind hlay hi (hc.2.2.1 k hk) hnar hfit
    refine W.putK hx hb (f := fd) ⟨hown, hw _ hm rfl, ⟨_, _, _, href ▸ hi⟩, hst9⟩ (by rw [q2]; exact h6) q1 q3 (by rw [hsl]; exact k2_hasslot (q4 k hk)) rfl rfl d fun H' e1 e2 e3 => ?_
    rw [hsl] at e1 ⊢
    refine hK _ _ _ _ _ (h _ rfl) ls H' _ cells slots hl (hrep.up (hrep a _ hf).2 ⟨_, hc.1, ?_⟩ e3) (hS.put e2 e3 (hrep a _ hf).2) hc1 hc2
    rw [fset_eq]
    exact t_OB.to (V := updV (vp_V fs) k (.long x)) ⟨_, e1, q2, q3, t_set q4 hap hk _⟩ (fun j _ => vp_updV_set hlen _ j)
  · exact h.elim
theorem ok_putJN {M : MI} {pc i ci k : Nat} {r : vw_C} {ty : Nat → FieldType} {ref : String} {host : String} (hc : ClsOk ci r ty) (hk : k < r.2.2) (hm : Cond.fieldLinkNest M.1 i ref (r.2.1 k).2.1 (r.2.1 k).2.2.1 host ∈ lw_tbl) (href : (r.2.1 k).1 = ref) (hfin : (r.2.1 k).2.2.2 = false) (hty : ty k = .long) (d : decode M.2.1 pc = .ok (.putfield i, 3)) : OpOk M pc 3 (o_putJ ci k) := by
  intro C Q X hC K hK B' hB lv st f bc bs h
  obtain ⟨⟨g, MC, MS⟩, ⟨p, l, e, R⟩, ⟨s, m, args, below, meth, c⟩, Qf⟩ := C
  obtain ⟨hx, hb, hml, hown, hw, hlk, hE, hst, hR, hex, hin, hrt, hQ, hgl⟩ := hC
  intro ls H locs cells slots hl hrep hS hc1 hc2
  simp only [o_putJ] at h
  split at h
  · next x a st9 =>
    obtain ⟨fs, hf, hlen, h⟩ := hobj_ex h
    have hnar : narrow (ty k) (.long x) = .long x := by rw [hty]; rfl
    have hfit : fits (ty k) (.long x) = true := by rw [hty]; rfl
    have hap := va_apart (own := M.1) (C := r.1) (T := r.2.1) (N := r.2.2) (hc.ws hw) (fun _ q => q) ty hc.2.2.1 hc.2.2.2 hE.1 hc.1
    obtain ⟨r', h1, cell, q1, q2, q3, q4⟩ := (hrep a _ hf).1
    have hr : r' = r := Option.some.inj (h1.symm.trans hc.1)
    subst hr
    obtain ⟨hSl, hfc, kC, hkC, hkind⟩ := hE.1.1 ci _ hc.1
    obtain ⟨cf, kf, fi, fd, hi, hsl⟩ := hSl k hk
    have hlay := hc.ws hw _ (u_in_lay hk)
    unfold u_lay at hlay
    rw [if_neg (by rw [hfin]; decide)] at hlay
    have hst9 := (u_facts hfc hkC (u_lays (hc.ws hw) (fun _ q => q) hk) hi).1
    have h6 := u_store hfc hkC hkind hlay hi (hc.2.2.1 k hk) hnar hfit
    refine va_WputK hx hb (f := fd) hown (hw _ hm rfl) (href ▸ hi) hst9 (by rw [q2]; exact h6) q1 q3 (by rw [hsl]; exact k2_hasslot (q4 k hk)) rfl rfl d fun H' e1 e2 e3 => ?_
    rw [hsl] at e1 ⊢
    refine hK _ _ _ _ _ (h _ rfl) ls H' _ cells slots hl (hrep.up (hrep a _ hf).2 ⟨_, hc.1, ?_⟩ e3) (hS.put e2 e3 (hrep a _ hf).2) hc1 hc2
    rw [fset_eq]
    exact t_OB.to (V := updV (vp_V fs) k (.long x)) ⟨_, e1, q2, q3, t_set q4 hap hk _⟩ (fun j _ => vp_updV_set hlen _ j)
  · exact h.elim
theorem ok_putJF {M : MI} {pc i ci k : Nat} {r : vw_C} {ty : Nat → FieldType} {ref : String} (hc : ClsOk ci r ty) (hk : k < r.2.2) (hm : Cond.fieldLink M.1 i ref (r.2.1 k).2.1 (r.2.1 k).2.2.1 ∈ lw_tbl) (href : (r.2.1 k).1 = ref) (hfin : (r.2.1 k).2.2.2 = true) (hty : ty k = .long) (hio : M.2.2.2.2.2.1 = true) (hdl : (r.2.1 k).1 = M.1) (d : decode M.2.1 pc = .ok (.putfield i, 3)) : OpOk M pc 3 (o_putJ ci k) := by
  intro C Q X hC K hK B' hB lv st f bc bs h
  obtain ⟨⟨g, MC, MS⟩, ⟨p, l, e, R⟩, ⟨s, m, args, below, meth, c⟩, Qf⟩ := C
  obtain ⟨hx, hb, hml, hown, hw, hlk, hE, hst, hR, hex, hin, hrt, hQ, hgl⟩ := hC
  intro ls H locs cells slots hl hrep hS hc1 hc2
  simp only [o_putJ] at h
  split at h
  · next x a st9 =>
    obtain ⟨fs, hf, hlen, h⟩ := hobj_ex h
    have hnar : narrow (ty k) (.long x) = .long x := by rw [hty]; rfl
    have hfit : fits (ty k) (.long x) = true := by rw [hty]; rfl
    have hap := va_apart (own := M.1) (C := r.1) (T := r.2.1) (N := r.2.2) (hc.ws hw) (fun _ q => q) ty hc.2.2.1 hc.2.2.2 hE.1 hc.1
    obtain ⟨r', h1, cell, q1, q2, q3, q4⟩ := (hrep a _ hf).1
    have hr : r' = r := Option.some.inj (h1.symm.trans hc.1)
    subst hr
    obtain ⟨hSl, hfc, kC, hkC, hkind⟩ := hE.1.1 ci _ hc.1
    obtain ⟨cf, kf, fi, fd, hi, hsl⟩ := hSl k hk
    have hlay := hc.ws hw _ (u_in_lay hk)
    unfold u_lay at hlay
    rw [if_pos hfin] at hlay
    have hst9 := (u_facts hfc hkC (u_lays (hc.ws hw) (fun _ q => q) hk) hi).1
    have hcf : m.cls = cf := by
      obtain ⟨_, _, c', _, _, _, -, -, hf', -, -, -, hown2, -⟩ := Cond.laysFinal_spec hlay
      have e1 : c' = cf := by have := hi.symm.trans hf'; simp at this; exact this.1.symm
      rw [hdl] at hown2
      rw [← e1]; exact Option.some.inj (hown.symm.trans hown2)
    have h6 := u_fits hfc hkC hkind (Or.inr hlay) hi (hc.2.2.1 k hk) hnar hfit
    refine W.putFinK hx hb hown (hw _ hm rfl) (href ▸ hi) hst9 hcf (hin hio) (by rw [q2]; exact h6) q1 q3 (by rw [hsl]; exact k2_hasslot (q4 k hk)) rfl rfl d fun H' e1 e2 e3 => ?_
    rw [hsl] at e1 ⊢
    refine hK _ _ _ _ _ (h _ rfl) ls H' _ cells slots hl (hrep.up (hrep a _ hf).2 ⟨_, hc.1, ?_⟩ e3) (hS.put e2 e3 (hrep a _ hf).2) hc1 hc2
    rw [fset_eq]
    exact t_OB.to (V := updV (vp_V fs) k (.long x)) ⟨_, e1, q2, q3, t_set q4 hap hk _⟩ (fun j _ => vp_updV_set hlen _ j)
  · exact h.elim
def o_putC (ci k : Nat) : Op := fun lv st f bc bs K _ _ _ => match st with | .int x :: .ref a :: r => hobj f a ci fun fs => k < fs.length ∧ (∃ q : Nat, q < 65536 ∧ x = nI q) ∧ Sto (aup f a (.inr (ci, fset fs k (.int x)))) (fun f1 => K lv r f1 bc bs) (0 : Nat) | _ => False
theorem ok_putC {M : MI} {pc i ci k : Nat} {r : vw_C} {ty : Nat → FieldType} {ref : String} (hc : ClsOk ci r ty) (hk : k < r.2.2) (hm : Cond.fieldLink M.1 i ref (r.2.1 k).2.1 (r.2.1 k).2.2.1 ∈ lw_tbl) (href : (r.2.1 k).1 = ref) (hfin : (r.2.1 k).2.2.2 = false) (hty : ty k = .char) (d : decode M.2.1 pc = .ok (.putfield i, 3)) : OpOk M pc 3 (o_putC ci k) := by
  intro C Q X hC K hK B' hB lv st f bc bs h
  obtain ⟨⟨g, MC, MS⟩, ⟨p, l, e, R⟩, ⟨s, m, args, below, meth, c⟩, Qf⟩ := C
  obtain ⟨hx, hb, hml, hown, hw, hlk, hE, hst, hR, hex, hin, hrt, hQ, hgl⟩ := hC
  intro ls H locs cells slots hl hrep hS hc1 hc2
  simp only [o_putC] at h
  split at h
  · next x a st9 =>
    obtain ⟨fs, hf, hlen, h0, h⟩ := hobj_ex h
    have hnar : narrow (ty k) (.int x) = .int x := by rw [hty]; obtain ⟨q, hq, rfl⟩ := h0; exact (pk_charN hq).1
    have hfit : fits (ty k) (.int x) = true := by rw [hty]; obtain ⟨q, hq, rfl⟩ := h0; exact (pk_charN hq).2
    have hap := va_apart (own := M.1) (C := r.1) (T := r.2.1) (N := r.2.2) (hc.ws hw) (fun _ q => q) ty hc.2.2.1 hc.2.2.2 hE.1 hc.1
    obtain ⟨r', h1, cell, q1, q2, q3, q4⟩ := (hrep a _ hf).1
    have hr : r' = r := Option.some.inj (h1.symm.trans hc.1)
    subst hr
    obtain ⟨hSl, hfc, kC, hkC, hkind⟩ := hE.1.1 ci _ hc.1
    obtain ⟨cf, kf, fi, fd, hi, hsl⟩ := hSl k hk
    have hlay := hc.ws hw _ (u_in_lay hk)
    unfold u_lay at hlay
    rw [if_neg (by rw [hfin]; decide)] at hlay
    have hst9 := (u_facts hfc hkC (u_lays (hc.ws hw) (fun _ q => q) hk) hi).1
    have h6 := u_store hfc hkC hkind hlay hi (hc.2.2.1 k hk) hnar hfit
    refine W.putK hx hb (f := fd) ⟨hown, hw _ hm rfl, ⟨_, _, _, href ▸ hi⟩, hst9⟩ (by rw [q2]; exact h6) q1 q3 (by rw [hsl]; exact k2_hasslot (q4 k hk)) rfl rfl d fun H' e1 e2 e3 => ?_
    rw [hsl] at e1 ⊢
    refine hK _ _ _ _ _ (h _ rfl) ls H' _ cells slots hl (hrep.up (hrep a _ hf).2 ⟨_, hc.1, ?_⟩ e3) (hS.put e2 e3 (hrep a _ hf).2) hc1 hc2
    rw [fset_eq]
    exact t_OB.to (V := updV (vp_V fs) k (.int x)) ⟨_, e1, q2, q3, t_set q4 hap hk _⟩ (fun j _ => vp_updV_set hlen _ j)
  · exact h.elim
theorem ok_putCF {M : MI} {pc i ci k : Nat} {r : vw_C} {ty : Nat → FieldType} {ref : String} (hc : ClsOk ci r ty) (hk : k < r.2.2) (hm : Cond.fieldLink M.1 i ref (r.2.1 k).2.1 (r.2.1 k).2.2.1 ∈ lw_tbl) (href : (r.2.1 k).1 = ref) (hfin : (r.2.1 k).2.2.2 = true) (hty : ty k = .char) (hio : M.2.2.2.2.2.1 = true) (hdl : (r.2.1 k).1 = M.1) (d : decode M.2.1 pc = .ok (.putfield i, 3)) : OpOk M pc 3 (o_putC ci k) := by
  intro C Q X hC K hK B' hB lv st f bc bs h
  obtain ⟨⟨g, MC, MS⟩, ⟨p, l, e, R⟩, ⟨s, m, args, below, meth, c⟩, Qf⟩ := C
  obtain ⟨hx, hb, hml, hown, hw, hlk, hE, hst, hR, hex, hin, hrt, hQ, hgl⟩ := hC
  intro ls H locs cells slots hl hrep hS hc1 hc2
  simp only [o_putC] at h
  split at h
  · next x a st9 =>
    obtain ⟨fs, hf, hlen, h0, h⟩ := hobj_ex h
    have hnar : narrow (ty k) (.int x) = .int x := by rw [hty]; obtain ⟨q, hq, rfl⟩ := h0; exact (pk_charN hq).1
    have hfit : fits (ty k) (.int x) = true := by rw [hty]; obtain ⟨q, hq, rfl⟩ := h0; exact (pk_charN hq).2
    have hap := va_apart (own := M.1) (C := r.1) (T := r.2.1) (N := r.2.2) (hc.ws hw) (fun _ q => q) ty hc.2.2.1 hc.2.2.2 hE.1 hc.1
    obtain ⟨r', h1, cell, q1, q2, q3, q4⟩ := (hrep a _ hf).1
    have hr : r' = r := Option.some.inj (h1.symm.trans hc.1)
    subst hr
    obtain ⟨hSl, hfc, kC, hkC, hkind⟩ := hE.1.1 ci _ hc.1
    obtain ⟨cf, kf, fi, fd, hi, hsl⟩ := hSl k hk
    have hlay := hc.ws hw _ (u_in_lay hk)
    unfold u_lay at hlay
    rw [if_pos hfin] at hlay
    have hst9 := (u_facts hfc hkC (u_lays (hc.ws hw) (fun _ q => q) hk) hi).1
    have hcf : m.cls = cf := by
      obtain ⟨_, _, c', _, _, _, -, -, hf', -, -, -, hown2, -⟩ := Cond.laysFinal_spec hlay
      have e1 : c' = cf := by have := hi.symm.trans hf'; simp at this; exact this.1.symm
      rw [hdl] at hown2
      rw [← e1]; exact Option.some.inj (hown.symm.trans hown2)
    have h6 := u_fits hfc hkC hkind (Or.inr hlay) hi (hc.2.2.1 k hk) hnar hfit
    refine W.putFinK hx hb hown (hw _ hm rfl) (href ▸ hi) hst9 hcf (hin hio) (by rw [q2]; exact h6) q1 q3 (by rw [hsl]; exact k2_hasslot (q4 k hk)) rfl rfl d fun H' e1 e2 e3 => ?_
    rw [hsl] at e1 ⊢
    refine hK _ _ _ _ _ (h _ rfl) ls H' _ cells slots hl (hrep.up (hrep a _ hf).2 ⟨_, hc.1, ?_⟩ e3) (hS.put e2 e3 (hrep a _ hf).2) hc1 hc2
    rw [fset_eq]
    exact t_OB.to (V := updV (vp_V fs) k (.int x)) ⟨_, e1, q2, q3, t_set q4 hap hk _⟩ (fun j _ => vp_updV_set hlen _ j)
  · exact h.elim
def o_putR (ci k : Nat) : Op := fun lv st f bc bs K _ _ _ => match st with | .ref x :: .ref a :: r => hobj f a ci fun fs => k < fs.length ∧ Sto (aup f a (.inr (ci, fset fs k (.ref x)))) (fun f1 => K lv r f1 bc bs) (0 : Nat) | _ => False
theorem ok_putR {M : MI} {pc i ci k : Nat} {r : vw_C} {ty : Nat → FieldType} {ref : String} (hc : ClsOk ci r ty) (hk : k < r.2.2) (hm : Cond.fieldLink M.1 i ref (r.2.1 k).2.1 (r.2.1 k).2.2.1 ∈ lw_tbl) (href : (r.2.1 k).1 = ref) (hfin : (r.2.1 k).2.2.2 = false) (hty : (∃ nm, ty k = .object nm) ∨ ∃ t, ty k = .array t) (d : decode M.2.1 pc = .ok (.putfield i, 3)) : OpOk M pc 3 (o_putR ci k) := by
  intro C Q X hC K hK B' hB lv st f bc bs h
  obtain ⟨⟨g, MC, MS⟩, ⟨p, l, e, R⟩, ⟨s, m, args, below, meth, c⟩, Qf⟩ := C
  obtain ⟨hx, hb, hml, hown, hw, hlk, hE, hst, hR, hex, hin, hrt, hQ, hgl⟩ := hC
  intro ls H locs cells slots hl hrep hS hc1 hc2
  simp only [o_putR] at h
  split at h
  · next x a st9 =>
    obtain ⟨fs, hf, hlen, h⟩ := hobj_ex h
    have hnar : narrow (ty k) (.ref x) = .ref x := by rcases hty with ⟨nm, e⟩ | ⟨t, e⟩ <;> rw [e] <;> rfl
    have hfit : fits (ty k) (.ref x) = true := by rcases hty with ⟨nm, e⟩ | ⟨t, e⟩ <;> rw [e] <;> rfl
    have hap := va_apart (own := M.1) (C := r.1) (T := r.2.1) (N := r.2.2) (hc.ws hw) (fun _ q => q) ty hc.2.2.1 hc.2.2.2 hE.1 hc.1
    obtain ⟨r', h1, cell, q1, q2, q3, q4⟩ := (hrep a _ hf).1
    have hr : r' = r := Option.some.inj (h1.symm.trans hc.1)
    subst hr
    obtain ⟨hSl, hfc, kC, hkC, hkind⟩ := hE.1.1 ci _ hc.1
    obtain ⟨cf, kf, fi, fd, hi, hsl⟩ := hSl k hk
    have hlay := hc.ws hw _ (u_in_lay hk)
    unfold u_lay at hlay
    rw [if_neg (by rw [hfin]; decide)] at hlay
    have hst9 := (u_facts hfc hkC (u_lays (hc.ws hw) (fun _ q => q) hk) hi).1
    have h6 := u_store hfc hkC hkind hlay hi (hc.2.2.1 k hk) hnar hfit
    refine W.putK hx hb (f := fd) ⟨hown, hw _ hm rfl, ⟨_, _, _, href ▸ hi⟩, hst9⟩ (by rw [q2]; exact h6) q1 q3 (by rw [hsl]; exact k2_hasslot (q4 k hk)) rfl rfl d fun H' e1 e2 e3 => ?_
    rw [hsl] at e1 ⊢
    refine hK _ _ _ _ _ (h _ rfl) ls H' _ cells slots hl (hrep.up (hrep a _ hf).2 ⟨_, hc.1, ?_⟩ e3) (hS.put e2 e3 (hrep a _ hf).2) hc1 hc2
    rw [fset_eq]
    exact t_OB.to (V := updV (vp_V fs) k (.ref x)) ⟨_, e1, q2, q3, t_set q4 hap hk _⟩ (fun j _ => vp_updV_set hlen _ j)
  · exact h.elim
theorem ok_putRN {M : MI} {pc i ci k : Nat} {r : vw_C} {ty : Nat → FieldType} {ref : String} {host : String} (hc : ClsOk ci r ty) (hk : k < r.2.2) (hm : Cond.fieldLinkNest M.1 i ref (r.2.1 k).2.1 (r.2.1 k).2.2.1 host ∈ lw_tbl) (href : (r.2.1 k).1 = ref) (hfin : (r.2.1 k).2.2.2 = false) (hty : (∃ nm, ty k = .object nm) ∨ ∃ t, ty k = .array t) (d : decode M.2.1 pc = .ok (.putfield i, 3)) : OpOk M pc 3 (o_putR ci k) := by
  intro C Q X hC K hK B' hB lv st f bc bs h
  obtain ⟨⟨g, MC, MS⟩, ⟨p, l, e, R⟩, ⟨s, m, args, below, meth, c⟩, Qf⟩ := C
  obtain ⟨hx, hb, hml, hown, hw, hlk, hE, hst, hR, hex, hin, hrt, hQ, hgl⟩ := hC
  intro ls H locs cells slots hl hrep hS hc1 hc2
  simp only [o_putR] at h
  split at h
  · next x a st9 =>
    obtain ⟨fs, hf, hlen, h⟩ := hobj_ex h
    have hnar : narrow (ty k) (.ref x) = .ref x := by rcases hty with ⟨nm, e⟩ | ⟨t, e⟩ <;> rw [e] <;> rfl
    have hfit : fits (ty k) (.ref x) = true := by rcases hty with ⟨nm, e⟩ | ⟨t, e⟩ <;> rw [e] <;> rfl
    have hap := va_apart (own := M.1) (C := r.1) (T := r.2.1) (N := r.2.2) (hc.ws hw) (fun _ q => q) ty hc.2.2.1 hc.2.2.2 hE.1 hc.1
    obtain ⟨r', h1, cell, q1, q2, q3, q4⟩ := (hrep a _ hf).1
    have hr : r' = r := Option.some.inj (h1.symm.trans hc.1)
    subst hr
    obtain ⟨hSl, hfc, kC, hkC, hkind⟩ := hE.1.1 ci _ hc.1
    obtain ⟨cf, kf, fi, fd, hi, hsl⟩ := hSl k hk
    have hlay := hc.ws hw _ (u_in_lay hk)
    unfold u_lay at hlay
    rw [if_neg (by rw [hfin]; decide)] at hlay
    have hst9 := (u_facts hfc hkC (u_lays (hc.ws hw) (fun _ q => q) hk) hi).1
    have h6 := u_store hfc hkC hkind hlay hi (hc.2.2.1 k hk) hnar hfit
    refine va_WputK hx hb (f := fd) hown (hw _ hm rfl) (href ▸ hi) hst9 (by rw [q2]; exact h6) q1 q3 (by rw [hsl]; exact k2_hasslot (q4 k hk)) rfl rfl d fun H' e1 e2 e3 => ?_
    rw [hsl] at e1 ⊢
    refine hK _ _ _ _ _ (h _ rfl) ls H' _ cells slots hl (hrep.up (hrep a _ hf).2 ⟨_, hc.1, ?_⟩ e3) (hS.put e2 e3 (hrep a _ hf).2) hc1 hc2
    rw [fset_eq]
    exact t_OB.to (V := updV (vp_V fs) k (.ref x)) ⟨_, e1, q2, q3, t_set q4 hap hk _⟩ (fun j _ => vp_updV_set hlen _ j)
  · exact h.elim
theorem ok_putRF {M : MI} {pc i ci k : Nat} {r : vw_C} {ty : Nat → FieldType} {ref : String} (hc : ClsOk ci r ty) (hk : k < r.2.2) (hm : Cond.fieldLink M.1 i ref (r.2.1 k).2.1 (r.2.1 k).2.2.1 ∈ lw_tbl) (href : (r.2.1 k).1 = ref) (hfin : (r.2.1 k).2.2.2 = true) (hty : (∃ nm, ty k = .object nm) ∨ ∃ t, ty k = .array t) (hio : M.2.2.2.2.2.1 = true) (hdl : (r.2.1 k).1 = M.1) (d : decode M.2.1 pc = .ok (.putfield i, 3)) : OpOk M pc 3 (o_putR ci k) := by
  intro C Q X hC K hK B' hB lv st f bc bs h
  obtain ⟨⟨g, MC, MS⟩, ⟨p, l, e, R⟩, ⟨s, m, args, below, meth, c⟩, Qf⟩ := C
  obtain ⟨hx, hb, hml, hown, hw, hlk, hE, hst, hR, hex, hin, hrt, hQ, hgl⟩ := hC
  intro ls H locs cells slots hl hrep hS hc1 hc2
  simp only [o_putR] at h
  split at h
  · next x a st9 =>
    obtain ⟨fs, hf, hlen, h⟩ := hobj_ex h
    have hnar : narrow (ty k) (.ref x) = .ref x := by rcases hty with ⟨nm, e⟩ | ⟨t, e⟩ <;> rw [e] <;> rfl
    have hfit : fits (ty k) (.ref x) = true := by rcases hty with ⟨nm, e⟩ | ⟨t, e⟩ <;> rw [e] <;> rfl
    have hap := va_apart (own := M.1) (C := r.1) (T := r.2.1) (N := r.2.2) (hc.ws hw) (fun _ q => q) ty hc.2.2.1 hc.2.2.2 hE.1 hc.1
    obtain ⟨r', h1, cell, q1, q2, q3, q4⟩ := (hrep a _ hf).1
    have hr : r' = r := Option.some.inj (h1.symm.trans hc.1)
    subst hr
    obtain ⟨hSl, hfc, kC, hkC, hkind⟩ := hE.1.1 ci _ hc.1
    obtain ⟨cf, kf, fi, fd, hi, hsl⟩ := hSl k hk
    have hlay := hc.ws hw _ (u_in_lay hk)
    unfold u_lay at hlay
    rw [if_pos hfin] at hlay
    have hst9 := (u_facts hfc hkC (u_lays (hc.ws hw) (fun _ q => q) hk) hi).1
    have hcf : m.cls = cf := by
      obtain ⟨_, _, c', _, _, _, -, -, hf', -, -, -, hown2, -⟩ := Cond.laysFinal_spec hlay
      have e1 : c' = cf := by have := hi.symm.trans hf'; simp at this; exact this.1.symm
      rw [hdl] at hown2
      rw [← e1]; exact Option.some.inj (hown.symm.trans hown2)
    have h6 := u_fits hfc hkC hkind (Or.inr hlay) hi (hc.2.2.1 k hk) hnar hfit
    refine W.putFinK hx hb hown (hw _ hm rfl) (href ▸ hi) hst9 hcf (hin hio) (by rw [q2]; exact h6) q1 q3 (by rw [hsl]; exact k2_hasslot (q4 k hk)) rfl rfl d fun H' e1 e2 e3 => ?_
    rw [hsl] at e1 ⊢
    refine hK _ _ _ _ _ (h _ rfl) ls H' _ cells slots hl (hrep.up (hrep a _ hf).2 ⟨_, hc.1, ?_⟩ e3) (hS.put e2 e3 (hrep a _ hf).2) hc1 hc2
    rw [fset_eq]
    exact t_OB.to (V := updV (vp_V fs) k (.ref x)) ⟨_, e1, q2, q3, t_set q4 hap hk _⟩ (fun j _ => vp_updV_set hlen _ j)
  · exact h.elim
def o_iald : Op := fun lv st f bc bs K _ _ _ => match st with | .int i :: .ref a :: r => hAI f a 0 fun n arr => ∃ j : Nat, i = nI j ∧ j < n ∧ j < 2147483648 ∧ K lv (.int (arr j) :: r) f bc bs | _ => False
theorem ok_iald {M : MI} {pc : Nat} (d : decode M.2.1 pc = .ok (.iaload, 1)) : OpOk M pc 1 o_iald := by
  intro C Q X hC K hK B' hB lv st f bc bs h
  obtain ⟨⟨g, MC, MS⟩, ⟨p, l, e, R⟩, ⟨s, m, args, below, meth, c⟩, Qf⟩ := C
  obtain ⟨hx, hb, hml, hown, hw, hlk, hE, hst, hR, hex, hin, hrt, hQ, hgl⟩ := hC
  intro ls H locs cells slots hl hrep hS hc1 hc2
  simp only [o_iald] at h
  split at h
  · obtain ⟨n, arr, hf, j, rfl, hj, hj2, h⟩ := hAI_ex h
    refine va_iald hx hb hE.1 (hrep.one hf) 0 0 rfl rfl (vin_nI hj hj2) d ?_
    rw [clampN hj2]
    exact hK _ _ _ _ _ h ls H locs cells slots hl hrep hS hc1 hc2
  · exact h.elim
def o_zald : Op := fun lv st f bc bs K _ _ _ => match st with | .int i :: .ref a :: r => hAI f a 1 fun n arr => ∃ j : Nat, i = nI j ∧ j < n ∧ j < 2147483648 ∧ K lv (.int (arr j) :: r) f bc bs | _ => False
theorem ok_zald {M : MI} {pc : Nat} (d : decode M.2.1 pc = .ok (.baload, 1)) : OpOk M pc 1 o_zald := by
  intro C Q X hC K hK B' hB lv st f bc bs h
  obtain ⟨⟨g, MC, MS⟩, ⟨p, l, e, R⟩, ⟨s, m, args, below, meth, c⟩, Qf⟩ := C
  obtain ⟨hx, hb, hml, hown, hw, hlk, hE, hst, hR, hex, hin, hrt, hQ, hgl⟩ := hC
  intro ls H locs cells slots hl hrep hS hc1 hc2
  simp only [o_zald] at h
  split at h
  · obtain ⟨n, arr, hf, j, rfl, hj, hj2, h⟩ := hAI_ex h
    refine va_zald hx hb hE.1 (hrep.one hf) 0 1 rfl rfl (vin_nI hj hj2) d ?_
    rw [clampN hj2]
    exact hK _ _ _ _ _ h ls H locs cells slots hl hrep hS hc1 hc2
  · exact h.elim
def o_cald : Op := fun lv st f bc bs K _ _ _ => match st with | .int i :: .ref a :: r => hAI f a 2 fun n arr => ∃ j : Nat, i = nI j ∧ j < n ∧ j < 2147483648 ∧ K lv (.int (arr j) :: r) f bc bs | _ => False
def o_lald : Op := fun lv st f bc bs K _ _ _ => match st with | .int i :: .ref a :: r => hAL f a 3 fun n arr => ∃ j : Nat, i = nI j ∧ j < n ∧ j < 2147483648 ∧ K lv (.long (arr j) :: r) f bc bs | _ => False
def o_dald : Op := fun lv st f bc bs K _ _ _ => match st with | .int i :: .ref a :: r => hAD f a 4 fun n arr => ∃ j : Nat, i = nI j ∧ j < n ∧ j < 2147483648 ∧ K lv (.double (arr j) :: r) f bc bs | _ => False
def o_iast : Op := fun lv st f bc bs K _ _ _ => match st with | .int x :: .int i :: .ref a :: r => hAI f a 0 fun n arr => ∃ j : Nat, i = nI j ∧ j < n ∧ j < 2147483648 ∧ Sto (aup f a (.inl (0, n, .inl (upd arr j x)))) (fun f1 => K lv r f1 bc bs) (0 : Nat) | _ => False
theorem ok_iast {M : MI} {pc : Nat} (d : decode M.2.1 pc = .ok (.iastore, 1)) : OpOk M pc 1 o_iast := by
  intro C Q X hC K hK B' hB lv st f bc bs h
  obtain ⟨⟨g, MC, MS⟩, ⟨p, l, e, R⟩, ⟨s, m, args, below, meth, c⟩, Qf⟩ := C
  obtain ⟨hx, hb, hml, hown, hw, hlk, hE, hst, hR, hex, hin, hrt, hQ, hgl⟩ := hC
  intro ls H locs cells slots hl hrep hS hc1 hc2
  simp only [o_iast] at h
  split at h
  · next x i a st9 =>
    obtain ⟨n, arr, hf, j, rfl, hj, hj2, h⟩ := hAI_ex h
    have hin := vin_nI hj hj2
    have hcell : H[a]? = some (vp_cell (g.2.1 0) (n, .inl arr)) := (hrep a _ hf).1
    refine W.iast hx hb hcell ((hE.1.2 0 _ rfl).1 n (fun j => .int (arr j))) (fun q => by cases q) (by show ¬ (_ < 0 ∨ (arrV _ _ _).slots.size ≤ _); rw [arrV_size]; exact hin) rfl rfl d fun H1 e9 z oq => ?_
    refine hK _ _ _ _ _ (h _ rfl) ls H1 _ cells slots hl (hrep.up (hrep a _ hf).2 ?_ oq) (hS.put z oq (hrep a _ hf).2) hc1 hc2
    show H1[a]? = some (vp_cell _ _)
    rw [e9]
    rw [vp_cell_i, vp_cell_i, arrV_store, clampN hj2]
    congr 2
    funext q
    by_cases hq : q = j
    · subst hq
      simp [updV, upd, vp_updL, vf_upd]
    · simp [updV, upd, vp_updL, vf_upd, hq]
  · exact h.elim
def o_zast : Op := fun lv st f bc bs K _ _ _ => match st with | .int x :: .int i :: .ref a :: r => hAI f a 1 fun n arr => ∃ j : Nat, i = nI j ∧ j < n ∧ j < 2147483648 ∧ (x = 0 ∨ x = 1) ∧ Sto (aup f a (.inl (1, n, .inl (upd arr j x)))) (fun f1 => K lv r f1 bc bs) (0 : Nat) | _ => False
theorem ok_zast {M : MI} {pc : Nat} (d : decode M.2.1 pc = .ok (.bastore, 1)) : OpOk M pc 1 o_zast := by
  intro C Q X hC K hK B' hB lv st f bc bs h
  obtain ⟨⟨g, MC, MS⟩, ⟨p, l, e, R⟩, ⟨s, m, args, below, meth, c⟩, Qf⟩ := C
  obtain ⟨hx, hb, hml, hown, hw, hlk, hE, hst, hR, hex, hin, hrt, hQ, hgl⟩ := hC
  intro ls H locs cells slots hl hrep hS hc1 hc2
  simp only [o_zast] at h
  split at h
  · next x i a st9 =>
    obtain ⟨n, arr, hf, j, rfl, hj, hj2, h0, h⟩ := hAI_ex h
    have hin := vin_nI hj hj2
    have hcell : H[a]? = some (vp_cell (g.2.1 1) (n, .inl arr)) := (hrep a _ hf).1
    refine W.zast hx hb hcell ((hE.1.2 1 _ rfl).1 n (fun j => .int (arr j))) (fun q => by cases q) (by show ¬ (_ < 0 ∨ (arrV _ _ _).slots.size ≤ _); rw [arrV_size]; exact hin) rfl rfl d fun H1 e9 z oq => ?_
    refine hK _ _ _ _ _ (h _ rfl) ls H1 _ cells slots hl (hrep.up (hrep a _ hf).2 ?_ oq) (hS.put z oq (hrep a _ hf).2) hc1 hc2
    show H1[a]? = some (vp_cell _ _)
    rw [e9]
    rw [vp_cell_i, vp_cell_i, arrV_store, clampN hj2]
    congr 2
    funext q
    by_cases hq : q = j
    · subst hq
      rcases h0 with rfl | rfl <;> simp [updV, upd, narrow]
    · simp [updV, upd, vp_updL, vf_upd, hq]
  · exact h.elim
def o_cast : Op := fun lv st f bc bs K _ _ _ => match st with | .int x :: .int i :: .ref a :: r => hAI f a 2 fun n arr => ∃ j : Nat, i = nI j ∧ j < n ∧ j < 2147483648 ∧ (∃ q : Nat, q < 65536 ∧ x = nI q) ∧ Sto (aup f a (.inl (2, n, .inl (upd arr j x)))) (fun f1 => K lv r f1 bc bs) (0 : Nat) | _ => False
def o_last : Op := fun lv st f bc bs K _ _ _ => match st with | .long x :: .int i :: .ref a :: r => hAL f a 3 fun n arr => ∃ j : Nat, i = nI j ∧ j < n ∧ j < 2147483648 ∧ Sto (aup f a (.inl (3, n, .inr (.inl (vp_updL arr j x))))) (fun f1 => K lv r f1 bc bs) (0 : Nat) | _ => False
def o_dast : Op := fun lv st f bc bs K _ _ _ => match st with | .double x :: .int i :: .ref a :: r => hAD f a 4 fun n arr => ∃ j : Nat, i = nI j ∧ j < n ∧ j < 2147483648 ∧ Sto (aup f a (.inl (4, n, .inr (.inr (.inr (.inl (vf_upd arr j x))))))) (fun f1 => K lv r f1 bc bs) (0 : Nat) | _ => False
def o_aald (kd : Nat) : Op := fun lv st f bc bs K _ _ _ => match st with | .int i :: .ref a :: r => hAR f a kd fun n arr => ∃ j : Nat, i = nI j ∧ j < n ∧ j < 2147483648 ∧ (match arr j with | some y => K lv (.ref y :: r) f bc bs | none => False) | _ => False
theorem ok_aald {M : MI} {pc kd : Nat} (hkd : kd = 5 ∨ kd = 7) (d : decode M.2.1 pc = .ok (.aaload, 1)) : OpOk M pc 1 (o_aald kd) := by
  intro C Q X hC K hK B' hB lv st f bc bs h
  obtain ⟨⟨g, MC, MS⟩, ⟨p, l, e, R⟩, ⟨s, m, args, below, meth, c⟩, Qf⟩ := C
  obtain ⟨hx, hb, hml, hown, hw, hlk, hE, hst, hR, hex, hin, hrt, hQ, hgl⟩ := hC
  intro ls H locs cells slots hl hrep hS hc1 hc2
  simp only [o_aald] at h
  split at h
  · next i a st9 =>
    obtain ⟨n, arr, hf, j, rfl, hj, hj2, h⟩ := hAR_ex h
    split at h
    case h_2 => exact h.elim
    case h_1 y hy =>
    have hin := vin_nI hj hj2
    have hcell : H[a]? = some (vp_cell (g.2.1 kd) (n, .inr (.inr (.inr (.inr arr))))) := (hrep a _ hf).1
    have hk := hK _ _ _ _ _ h ls H locs cells slots hl hrep hS hc1 hc2
    have hv : (vp_cell (g.2.1 kd) (n, .inr (.inr (.inr (.inr arr))))).slots[(nI j).toNatClampNeg]? = some (.ref y) := by
      rw [vp_cell_q, clampN hj2, arrV_read _ _ hj, hy]
      rfl
    have hsz : ¬ (nI j < 0 ∨ (vp_cell (g.2.1 kd) (n, .inr (.inr (.inr (.inr arr))))).slots.size ≤ (nI j).toNatClampNeg) := by
      rw [vp_cell_q, arrV_size]; exact hin
    have hof : ∃ ty, s.isArrayOf (vp_cell (g.2.1 kd) (n, .inr (.inr (.inr (.inr arr))))) ty ∧ ty.isReference = true := by
      rcases hkd with rfl | rfl
      · exact ⟨.array .int, (hE.1.2 5 _ rfl).1 n (fun j => va_rf (arr j)), rfl⟩
      · exact ⟨.object "java/lang/Object", (hE.1.2 7 _ rfl).1 n (fun j => va_rf (arr j)), rfl⟩
    obtain ⟨ty, hof, href⟩ := hof
    exact W.aald (v := .ref y) (ty := ty) hx hb hcell hof href (fun q => by cases q) hsz hv rfl rfl d hk
  · exact h.elim
def o_alen (g : GG) : Op := fun lv st f bc bs K _ _ _ => match st with | .ref a :: r => (match f a with | some (.inl (kd, x)) => kd < 8 ∧ K lv (.int (nI x.1) :: r) f bc bs | _ => a = g.2.2 2 ∧ K lv (.int (nI 0) :: r) f bc bs) | _ => False
theorem kind_ty {aC : Nat → ClassId} {kd : Nat} (h : kd < 8) : ∃ ty, (gtys aC)[kd]? = some (aC kd, ty) := by
  match kd, h with
  | 0, _ => exact ⟨_, rfl⟩
  | 1, _ => exact ⟨_, rfl⟩
  | 2, _ => exact ⟨_, rfl⟩
  | 3, _ => exact ⟨_, rfl⟩
  | 4, _ => exact ⟨_, rfl⟩
  | 5, _ => exact ⟨_, rfl⟩
  | 6, _ => exact ⟨_, rfl⟩
  | 7, _ => exact ⟨_, rfl⟩
