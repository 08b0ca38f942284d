-- deps: 36.mo15 25.mo5
/-! ===== the reference: groups put in order, scans begun and ended ===== -/
/-- the place of a key among so many -/
def atF (v : Nat → Int32) (x : Int32) : Nat → Nat
  | 0 => 0
  | h + 1 => if rkI (v h) < rkI x then atF v x h + 1 else atF v x h
theorem atF_le (v : Nat → Int32) (x : Int32) : ∀ n, atF v x n ≤ n
  | 0 => Nat.le_refl _
  | n + 1 => by
    rw [atF]
    have := atF_le v x n
    split <;> omega
def soC (cm : CM) (s : Nat) : Nat → CM
  | 0 => cm
  | y + 1 => c3 (soC cm s y) 51 s (atF (cm 38 s) (cm 38 s y) (nn (cm 34 0 s))) (nI y)
theorem soC_n {cm : CM} {s k : Nat} (h : k ≠ 51) : ∀ y, soC cm s y k = cm k
  | 0 => rfl
  | y + 1 => by rw [soC, c3_n h, soC_n h y]
def enC (cm : CM) (s : Nat) : CM :=
  if cm 29 0 s = cm 28 0 s then soC (c3 (c3 cm 45 0 0 (cm 45 0 0 + 1)) 33 0 s (cm 45 0 0 + 1)) s (nn (cm 34 0 s)) else cm
/-! ===== taken back ===== -/
/-- spilled till so much is left, at most so often -/
def tbC (s : Nat) (lim : Int32) : Nat → CM → CM
  | 0, cm => cm
  | n + 1, cm => if lim < inM cm s then tbC s lim n (spC cm s) else cm
def tbM (cm : CM) (x y : Int32) : Int32 × CM :=
  if (inR x 0 (cm 4 0 0 - 1) && !decide (0 < cm 33 0 (nn x))) = false then (0, thr cm true 1) else
  if inR y 1 (cm 26 0 (nn x) - 1) = false then (0, thr (thr cm false 1) true 2) else
  (tbC (nn x) (2 * y) 5 (c3 (thr (thr cm false 1) false 2) 26 0 (nn x) y) 31 0 (nn x) - cm 31 0 (nn x), tbC (nn x) (2 * y) 5 (c3 (thr (thr cm false 1) false 2) 26 0 (nn x) y))
theorem spC_34 {cm : CM} {s : Nat} : spC cm s 34 = cm 34 := by
  rw [spC, rowU_n (by decide), spA, c3_n (by decide), c3_n (by decide), c3_n (by decide)]
theorem spC_44 {cm : CM} {s : Nat} (h : ∀ g, b01 (cm 44 s g)) : ∀ g, b01 (spC cm s 44 s g) := by
  intro g
  rw [spC]
  rcases Nat.lt_or_ge g (nn (cm 34 0 s)) with h1 | h1
  · rw [rowU_lt h1, spI]
    refine and_01 (h g) ?_
    split
    · exact Or.inl rfl
    · exact Or.inr rfl
  · rw [rowU_ge h1]
    exact h g
/-- five spills leave no more than asked -/
def tbS (cm : CM) (s : Nat) (lim : Int32) : Prop := ¬ lim < inM (tbC s lim 5 cm) s
/-! ===== a scan opened ===== -/
def opOk (y z w : Int32) : Bool := inR y (-1) 3 && (inR z 0 3 && inR w 1 6)
def opA (cm : CM) (x y z w : Int32) : CM :=
  c3 (c3 (c3 (c3 (c3 (c3 (c3 cm 23 0 (nn (cm 4 0 0)) x) 24 0 (nn (cm 4 0 0)) y) 25 0 (nn (cm 4 0 0)) z) 26 0 (nn (cm 4 0 0)) w) 27 0 (nn (cm 4 0 0)) (cm 1 0 0)) 28 0 (nn (cm 4 0 0)) (chN cm)) 4 0 0 (cm 4 0 0 + 1)
def opM (cm : CM) (x y z w : Int32) : Int32 × CM :=
  if noFil cm x then (0, thr cm true 1) else
  if opOk y z w = false then (0, thr (thr cm false 1) true 2) else
  if opN cm = 4 then (0, thr (thr (thr cm false 1) false 2) true 3) else
  if cm 4 0 0 = 40 then (0, thr (thr (thr cm false 1) false 2) true 3) else
  (cm 4 0 0, enC (opA (thr (thr (thr cm false 1) false 2) false 3) x y z w) (nn (cm 4 0 0)))

