/-! ===== the reference: writes ===== -/
theorem thr_n {cm : CM} {b : Bool} {x : Int32} {k : Nat} (h : k ≠ 49) : thr cm b x k = cm k := c3_n h
theorem wrC_n {cm : CM} {r c : Nat} {v : Int32} {k : Nat} (h1 : k ≠ 1) (h2 : k ≠ 2) (h3 : k ≠ 10) (h4 : k ≠ 11) (h5 : k ≠ 12) (h6 : k ≠ 13) : wrC cm r c v k = cm k := by
  rw [wrC, c3_n h2, c3_n h6, c3_n h5, c3_n h4, c3_n h3, c3_n h1]
theorem wdC_n {cm : CM} {r c : Nat} {v : Int32} {k : Nat} (h1 : k ≠ 14) (h2 : k ≠ 15) (h3 : k ≠ 17) (h4 : k ≠ 18) : wdC cm r c v k = cm k := by
  rw [wdC]
  split
  · rw [c3_n h4]
  · rw [c3_n h3, c3_n h2, c3_n h1]
theorem tchC_n {cm : CM} {c : Int32} {k : Nat} (h : k ≠ 50) : tchC cm c k = cm k := rowU_n h
theorem FOk_cg {cm cm' : CM} (h : FOk cm) (h1 : cm' 3 = cm 3) (h2 : cm' 19 = cm 19) (h3 : cm' 20 = cm 20) (h4 : cm' 21 = cm 21) : FOk cm' := by
  unfold FOk
  rw [h1, h2, h3, h4]
  exact h
theorem SOk_cg {cm cm' : CM} (h : SOk cm) (h1 : cm' 3 = cm 3) (h2 : cm' 4 = cm 4) (h3 : cm' 50 = cm 50) (h4 : cm' 23 = cm 23) : SOk cm' := by
  unfold SOk
  rw [h1, h2, h3, h4]
  exact h
theorem noCell_f {cm : CM} {r c : Int32} (hb : Nb (cm 0 0 0) 160) (h : noCell cm r c = false) : ∃ a b, a < 160 ∧ nI a < cm 0 0 0 ∧ b < 4 ∧ r = nI a ∧ c = nI b := by
  obtain ⟨n, hn, e⟩ := hb
  simp only [noCell, Bool.not_eq_false', Bool.and_eq_true, e] at h
  obtain ⟨a, ha, rfl⟩ := (inR_nI (by omega)).mp h.1
  obtain ⟨b, hb, rfl⟩ := (inR_nI (m := 4) (by omega)).mp h.2
  exact ⟨a, b, by omega, by rw [e]; exact nI_lt (by omega) (by omega), by omega, rfl, rfl⟩
theorem lk_cg {cm cm' : CM} (h2 : cm' 2 = cm 2) (h6 : cm' 6 = cm 6) (h10 : cm' 10 = cm 10) (h11 : cm' 11 = cm 11) (h12 : cm' 12 = cm 12) (h13 : cm' 13 = cm 13) (r c : Nat) (mom : Int32) : lk cm' r c mom = lk cm r c mom := by
  have : ∀ n, lkup cm' r c mom n = lkup cm r c mom n := by
    intro n
    induction n with
    | zero => simp only [lkup, h6]
    | succ n ih => simp only [lkup, h10, h11, h12, h13, ih]
  rw [lk, lk, h2, this]
/-- a write, past what is refused -/
def setC (cm : CM) (r c : Nat) (v : Int32) : CM :=
  tchC (c3 (wdC (wrC cm r c v) r c v) 16 0 (r / 16) (cm 16 0 (r / 16) + 1)) (nI c)
def setM (cm : CM) (r c v : Int32) : Bool × CM :=
  if noCell cm r c then (false, thr cm true 1) else
  if inR v (-999) 999 = false then (false, thr (thr cm false 1) true 2) else
  if 0 < cm 9 0 (nn r) then (false, thr (thr (thr cm false 1) false 2) true 3) else
  (decide (lk (thr (thr (thr cm false 1) false 2) false 3) (nn r) (nn c) (cm 1 0 0) = 5000), setC (thr (thr (thr cm false 1) false 2) false 3) (nn r) (nn c) v)
def WOk (cm : CM) : Prop := Nb (cm 0 0 0) 160 ∧ Nb (cm 2 0 0) 1099 ∧ FOk cm ∧ SOk cm
def clrM (cm : CM) (r c : Int32) : Bool × CM :=
  if noCell cm r c then (false, thr cm true 1) else
  if 0 < cm 9 0 (nn r) then (false, thr (thr cm false 1) true 2) else
  (decide (lk (thr (thr cm false 1) false 2) (nn r) (nn c) (cm 1 0 0) = 5000), setC (thr (thr cm false 1) false 2) (nn r) (nn c) 5000)
def vatM (cm : CM) (r c : Int32) : Int32 × CM :=
  if noCell cm r c then (0, thr cm true 1) else
  if lk (thr cm false 1) (nn r) (nn c) (cm 1 0 0) = 5000 ∨ 0 < cm 9 0 (nn r) then (0, thr (thr cm false 1) true 2) else
  (lk (thr cm false 1) (nn r) (nn c) (cm 1 0 0), thr (thr cm false 1) false 2)

