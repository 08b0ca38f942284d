-- deps: 36.mo15
/-! ===== the reference: a row taken into the groups ===== -/
theorem spC_n {cm : CM} {s k : Nat} (h1 : k ≠ 31) (h2 : k ≠ 35) (h3 : k ≠ 36) (h4 : k ≠ 44) : spC cm s k = cm k := by
  rw [spC, rowU_n h4, spA, c3_n h1, c3_n h3, c3_n h2]
theorem grC_n {cm : CM} {s k : Nat} {x : Int32} (h1 : k ≠ 34) (h2 : k ≠ 38) : grC cm s x k = cm k := by
  rw [grC]
  split
  · rfl
  · rw [c3_n h1, c3_n h2]
def tkV (cm : CM) (s g : Nat) (v : Int32) : CM :=
  if v = 5000 then c3 cm 39 s g (cm 39 s g + 1) else
  c3 (c3 (c3 (c3 (c3 cm 39 s g (cm 39 s g + 1)) 42 s g (if cm 40 s g = 0 then v else imin (cm 42 s g) v)) 43 s g (if cm 40 s g = 0 then v else imax (cm 43 s g) v)) 40 s g (cm 40 s g + 1)) 41 s g (cm 41 s g + v)
def tkM (cm : CM) (s g p : Nat) : CM :=
  if cm 35 0 (4 * s + p) = 0 then (if cm 44 s g = 0 then c3 (c3 cm 44 s g 1) 36 0 (4 * s + p) (cm 36 0 (4 * s + p) + 1) else cm) else c3 cm 32 0 s (cm 32 0 s + 1)
def tkS (cm : CM) (s g p : Nat) : CM :=
  if cm 35 0 (4 * s + p) = 0 then (if cm 44 s g = 0 then (if inM cm s < 2 * cm 26 0 s then cm else spC cm s) else cm) else cm
def tkK (cm : CM) (s row : Nat) : Int32 := if cm 24 0 s < 0 then 0 else lk cm row (nn (cm 24 0 s)) (cm 27 0 s)
theorem tkM_n {cm : CM} {s g p k : Nat} (h1 : k ≠ 44) (h2 : k ≠ 36) (h3 : k ≠ 32) : tkM cm s g p k = cm k := by
  rw [tkM]
  split
  · split
    · rw [c3_n h2, c3_n h1]
    · rfl
  · rw [c3_n h3]
theorem tkS_n {cm : CM} {s g p k : Nat} (h1 : k ≠ 31) (h2 : k ≠ 35) (h3 : k ≠ 36) (h4 : k ≠ 44) : tkS cm s g p k = cm k := by
  rw [tkS]
  split
  · split
    · split
      · rfl
      · rw [spC_n h1 h2 h3 h4]
    · rfl
  · rfl
def tkC (cm : CM) (s row : Nat) : CM :=
  tkV (tkM (tkS (grC cm s (tkK cm s row)) s (grN cm s (tkK cm s row)) (nn (prt (tkK cm s row)))) s (grN cm s (tkK cm s row)) (nn (prt (tkK cm s row)))) s (grN cm s (tkK cm s row)) (lk cm row (nn (cm 25 0 s)) (cm 27 0 s))
/-- what a scan stands upon -/
def TOk (cm : CM) (s : Nat) : Prop := Nb (cm 2 0 0) 1100 ∧ (cm 24 0 s = -1 ∨ ∃ c, c < 4 ∧ cm 24 0 s = nI c) ∧ (∃ c, c < 4 ∧ cm 25 0 s = nI c) ∧ Nb (cm 34 0 s) 160 ∧ ∀ g, b01 (cm 44 s g)

