-- deps: 30.mo10
/-! ===== the reference: what filters come to ===== -/
def notI (x : Int32) : Int32 := if x = 1 then 2 else if x = 2 then 1 else 4
def bothI (a b : Int32) : Int32 := if a = 2 ∨ b = 2 then 2 else if a = 4 ∨ b = 4 then 4 else 1
def fulB (kd v n : Int32) : Bool := if kd = 60 then decide (v < n) else if kd = 61 then decide (v = n) else decide (n < v)
/-- what a filter is for a row by a moment -/
def trF (cm : CM) (r : Nat) (mom : Int32) : Nat → Nat → Int32
  | 0, _ => 0
  | d + 1, f =>
    if cm 19 0 f = 110 then notI (trF cm r mom d (nn (cm 20 0 f))) else
    if cm 19 0 f = 97 then bothI (trF cm r mom d (nn (cm 20 0 f))) (trF cm r mom d (nn (cm 21 0 f))) else
    if cm 19 0 f = 111 then notI (bothI (notI (trF cm r mom d (nn (cm 20 0 f)))) (notI (trF cm r mom d (nn (cm 21 0 f))))) else
    if cm 19 0 f = 109 then (if lk cm r (nn (cm 20 0 f)) mom = 5000 then 1 else 2) else
    if lk cm r (nn (cm 20 0 f)) mom = 5000 then 4 else if fulB (cm 19 0 f) (lk cm r (nn (cm 20 0 f)) mom) (cm 21 0 f) then 1 else 2
/-! ===== all that a filter can be in a chunk ===== -/
def cjT (kd x y : Int32) : Int32 := if kd = 110 then notI x else if kd = 97 then bothI x y else notI (bothI (notI x) (notI y))
def cjS (kd a b s x y : Int32) : Int32 := s ||| (if a &&& x = 0 then 0 else if b &&& y = 0 then 0 else cjT kd x y)
def cjR (kd a b s x : Int32) : Int32 := cjS kd a b (cjS kd a b (cjS kd a b s x 1) x 2) x 4
def cjF (kd a b : Int32) : Int32 := cjR kd a b (cjR kd a b (cjR kd a b 0 1) 2) 4
def cnV (kd n : Int32) : Nat → Int32 → Int32 → Int32
  | 0, _, s => s
  | m + 1, v, s => cnV kd n m (v + 1) (s ||| (if fulB kd v n then 1 else 2))
def cnN (lo hi : Int32) : Nat := (hi.toInt - lo.toInt + 1).toNat
def cnF (cm : CM) (k : Nat) : Nat → Nat → Int32
  | 0, _ => 0
  | d + 1, f =>
    if isJ (cm 19 0 f) then cjF (cm 19 0 f) (cnF cm k d (nn (cm 20 0 f))) (if cm 19 0 f = 110 then 1 else cnF cm k d (nn (cm 21 0 f))) else
    if cm 19 0 f = 109 then (if cm 18 0 (4 * k + nn (cm 20 0 f)) = 0 then 0 else 1) + (if cm 17 0 (4 * k + nn (cm 20 0 f)) = 0 then 0 else 2) else
    if cm 17 0 (4 * k + nn (cm 20 0 f)) = 0 then (if cm 18 0 (4 * k + nn (cm 20 0 f)) = 0 then 0 else 4) else
    cnV (cm 19 0 f) (cm 21 0 f) (cnN (cm 14 0 (4 * k + nn (cm 20 0 f))) (cm 15 0 (4 * k + nn (cm 20 0 f)))) (cm 14 0 (4 * k + nn (cm 20 0 f))) (if cm 18 0 (4 * k + nn (cm 20 0 f)) = 0 then 0 else 4)
/-- bounds that count are no greater than the missing value -/
def LOk (cm : CM) : Prop := ∀ j, j < 40 → cm 17 0 j = 0 ∨ (v5 (cm 14 0 j) ∧ v5 (cm 15 0 j))
def v6 (x : Int32) : Prop := -5000 ≤ x.toInt ∧ x.toInt ≤ 5001
theorem v5_succ {x : Int32} (h : v6 x) : (x + 1).toInt = x.toInt + 1 := by
  obtain ⟨h1, h2⟩ := h
  rw [Int32.toInt_add, show (1 : Int32).toInt = 1 from rfl, Int.bmod_eq_of_le (by omega) (by omega)]

