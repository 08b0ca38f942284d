-- deps: 32.mo11 33.mo12
/-! ===== the reference: asking filters, sums ===== -/
theorem LOk_cg {cm cm' : CM} (h : LOk cm) (h1 : cm' 14 = cm 14) (h2 : cm' 15 = cm 15) (h3 : cm' 17 = cm 17) : LOk cm' := by
  unfold LOk
  rw [h1, h2, h3]
  exact h
def cbM (cm : CM) (f k : Int32) : Int32 × CM :=
  if noFil cm f then (0, thr cm true 1) else
  if inR k 0 (chN cm - 1) = false then (0, thr (thr cm false 1) true 2) else
  (cnF (thr (thr cm false 1) false 2) (nn k) 30 (nn f), thr (thr cm false 1) false 2)
def noSum (cm : CM) (f m : Int32) : Bool := noFil cm f || !inR m 0 3
def noSumC (cm : CM) (f m : Int32) : CM := if noFil cm f then thr cm true 1 else thr (thr cm false 1) (!inR m 0 3) 2
theorem noSum_f {cm : CM} {f m : Int32} (hb : Nb (cm 3 0 0) 30) (h : noSum cm f m = false) : ∃ a b, a < nn (cm 3 0 0) ∧ a < 30 ∧ b < 4 ∧ f = nI a ∧ m = nI b ∧ noSumC cm f m = thr (thr cm false 1) false 2 := by
  rw [noSum, Bool.or_eq_false_iff] at h
  obtain ⟨a, h1, h2, rfl⟩ := noFil_f hb h.1
  have h3 := h.2
  rw [Bool.not_eq_false'] at h3
  obtain ⟨b, hb, rfl⟩ := (inR_nI (m := 4) (by omega)).mp h3
  refine ⟨a, b, h1, h2, hb, rfl, rfl, ?_⟩
  rw [noSumC, if_neg (by rw [h.1]; decide), h3]
  rfl
def smF (cm : CM) (f m row : Nat) : Int32 := if cm 9 0 row = 0 then (if lk cm row m (cm 1 0 0) = 5000 then 0 else if trF cm row (cm 1 0 0) 30 f = 1 then lk cm row m (cm 1 0 0) else 0) else 0
def smM (cm : CM) (f m : Int32) : Int32 := if noSum cm f m then 0 else sumI (smF (noSumC cm f m) (nn f) (nn m)) (nn (cm 0 0 0))

