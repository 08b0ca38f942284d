/-! ===== the reference: its log and its bounds ===== -/
/-- the latest of the first n entries of the log for a cell by a moment, or what was loaded -/
def lkup (cm : CM) (r c : Nat) (mom : Int32) : Nat → Int32
  | 0 => cm 6 0 (4 * r + c)
  | n + 1 => if cm 10 0 n = nI r ∧ cm 11 0 n = nI c ∧ cm 13 0 n ≤ mom then cm 12 0 n else lkup cm r c mom n
def lk (cm : CM) (r c : Nat) (mom : Int32) : Int32 := lkup cm r c mom (nn (cm 2 0 0))
def aliveM (cm : CM) (r : Nat) (mom : Int32) : Bool := decide (cm 8 0 r ≤ mom) && (decide (cm 9 0 r = 0) || !decide (cm 9 0 r ≤ mom))
/-- a write goes into the log -/
def wrC (cm : CM) (r c : Nat) (v : Int32) : CM :=
  c3 (c3 (c3 (c3 (c3 (c3 cm 1 0 0 (cm 1 0 0 + 1)) 10 0 (nn (cm 2 0 0)) (nI r)) 11 0 (nn (cm 2 0 0)) (nI c)) 12 0 (nn (cm 2 0 0)) v) 13 0 (nn (cm 2 0 0)) (cm 1 0 0 + 1)) 2 0 0 (cm 2 0 0 + 1)
/-- .. and the bounds take it in -/
def wdC (cm : CM) (r c : Nat) (v : Int32) : CM :=
  if v = 5000 then c3 cm 18 0 (4 * (r / 16) + c) 1 else
  c3 (c3 (c3 cm 14 0 (4 * (r / 16) + c) (if cm 17 0 (4 * (r / 16) + c) = 0 then v else imin (cm 14 0 (4 * (r / 16) + c)) v)) 15 0 (4 * (r / 16) + c) (if cm 17 0 (4 * (r / 16) + c) = 0 then v else imax (cm 15 0 (4 * (r / 16) + c)) v)) 17 0 (4 * (r / 16) + c) 1
def isJ (k : Int32) : Bool := decide (k = 97) || decide (k = 111) || decide (k = 110)
/-- whether a filter compares a column -/
def about (cm : CM) (col : Int32) : Nat → Nat → Bool
  | 0, _ => false
  | d + 1, f => if isJ (cm 19 0 f) then about cm col d (nn (cm 20 0 f)) || (!decide (cm 19 0 f = 110) && about cm col d (nn (cm 21 0 f))) else decide (cm 20 0 f = col)
theorem about_cg {cm cm' : CM} (h1 : cm' 19 = cm 19) (h2 : cm' 20 = cm 20) (h3 : cm' 21 = cm 21) (col : Int32) : ∀ d f, about cm' col d f = about cm col d f
  | 0, _ => rfl
  | d + 1, f => by simp only [about, h1, h2, h3, about_cg h1 h2 h3 col d]
/-- the filters are made of those ahead of them -/
def FOk (cm : CM) : Prop := Nb (cm 3 0 0) 30 ∧ ∀ f, f < nn (cm 3 0 0) → (isJ (cm 19 0 f) = true → (∃ a, a < f ∧ cm 20 0 f = nI a) ∧ (¬ cm 19 0 f = 110 → ∃ b, b < f ∧ cm 21 0 f = nI b)) ∧ (isJ (cm 19 0 f) = false → ∃ c, c < 4 ∧ cm 20 0 f = nI c)
theorem FOk.lt {cm : CM} (h : FOk cm) {j : Nat} (hj : j < nn (cm 3 0 0)) : j < 30 := by
  obtain ⟨⟨n, hn, e⟩, -⟩ := h
  rw [e, nn_nI (by omega)] at hj
  omega
/-- whether a write to a column touches a scan's result -/
def tchB (cm : CM) (col : Int32) (k : Nat) : Bool := decide (col < 0) || decide (cm 24 0 k = col) || decide (cm 25 0 k = col) || about cm col 30 (nn (cm 23 0 k))
def tchF (cm : CM) (col : Int32) (k : Nat) : Int32 := cm 50 0 k ||| b2i (tchB cm col k)
def tchC (cm : CM) (col : Int32) : CM := rowU cm 50 0 (tchF cm col) (nn (cm 4 0 0))
/-- the scans stand upon filters that are there -/
def SOk (cm : CM) : Prop := Nb (cm 4 0 0) 40 ∧ ∀ k, k < nn (cm 4 0 0) → b01 (cm 50 0 k) ∧ ∃ j, j < nn (cm 3 0 0) ∧ cm 23 0 k = nI j

