-- deps: 23.mo3 27.mo7 29.mo9
/-! ===== the reference: the bits of a column ===== -/
theorem b2i_and1 (b : Bool) : b2i b &&& 1 = b2i b := by cases b <;> decide
theorem b2i_and0 (b : Bool) : b2i b &&& 0 = 0 := by cases b <;> decide
theorem b2i_or1 (b : Bool) : b2i b ||| 1 = 1 := by cases b <;> decide
theorem b2i_or0 (b : Bool) : b2i b ||| 0 = b2i b := by cases b <;> decide
def bv (cm : CM) (k c i : Nat) : Int32 := cm 7 0 (4 * (16 * k + i) + c)
def rnF (v : Nat → Int32) : Nat → Int32
  | 0 => 1
  | i + 1 => if v (i + 1) = v i then 0 else 1
/-- whether the i-th is none of the first j -/
def nwB (v : Nat → Int32) (i : Nat) : Nat → Bool
  | 0 => true
  | j + 1 => nwB v i j && !decide (v j = v i)
def dfF (v : Nat → Int32) (i : Nat) : Int32 := if nwB v i i then 1 else 0
def bbL (v : Nat → Int32) : Nat → Int32
  | 0 => 5000
  | k + 1 => imin (bbL v k) (v k)
def bbM (v : Nat → Int32) : Nat → Int32
  | 0 => -5000
  | k + 1 => imax (bbM v k) (v k)
def bbI (v : Nat → Int32) : Nat → Bool
  | 0 => false
  | k + 1 => bbI v k || decide (v k = 5000)
def bbF (v : Nat → Int32) (n : Nat) (w : Int32) : Int32 :=
  if w = 112 then 11 * nI n else if w = 114 then 15 * sumI (rnF v) n else if w = 100 then 11 * sumI (dfF v) n + btI (sumI (dfF v) n) * nI n else
  if bbI v n then 1000000 else 15 + btI (bbM v n - bbL v n + 1) * nI n
theorem sumI_le {F : Nat → Int32} (h : ∀ i, F i = 0 ∨ F i = 1) : ∀ n, ∃ m, m ≤ n ∧ sumI F n = nI m
  | 0 => ⟨0, Nat.le_refl _, rfl⟩
  | n + 1 => by
    obtain ⟨m, hm, e⟩ := sumI_le h n
    rw [sumI, e]
    rcases h n with h | h <;> rw [h]
    · exact ⟨m, by omega, Int32.add_zero _⟩
    · exact ⟨m + 1, by omega, nI_add m 1⟩
theorem dfF_01 (v : Nat → Int32) (i : Nat) : dfF v i = 0 ∨ dfF v i = 1 := by
  rw [dfF]
  split
  · exact Or.inr rfl
  · exact Or.inl rfl
def v5 (x : Int32) : Prop := -5000 ≤ x.toInt ∧ x.toInt ≤ 5000
theorem bbL_5 {v : Nat → Int32} : ∀ n, (∀ i, i < n → v5 (v i)) → v5 (bbL v n)
  | 0, _ => by
    rw [bbL]
    unfold v5
    decide
  | n + 1, h => by
    rw [bbL, imin]
    split
    · exact h n (by omega)
    · exact bbL_5 n fun i hi => h i (by omega)
theorem bbM_5 {v : Nat → Int32} : ∀ n, (∀ i, i < n → v5 (v i)) → v5 (bbM v n)
  | 0, _ => by
    rw [bbM]
    unfold v5
    decide
  | n + 1, h => by
    rw [bbM, imax]
    split
    · exact h n (by omega)
    · exact bbM_5 n fun i hi => h i (by omega)
theorem v5_d {x y : Int32} (hx : v5 x) (hy : v5 y) : x - y + 1 ≤ 1073741824 := by
  obtain ⟨h1, h2⟩ := hx
  obtain ⟨h3, h4⟩ := hy
  rw [Int32.le_iff_toInt_le, Int32.toInt_add, Int32.toInt_sub, show (1 : Int32).toInt = 1 from rfl, show (1073741824 : Int32).toInt = 1073741824 from rfl]
  rw [Int.bmod_eq_of_le (n := x.toInt - y.toInt) (by omega) (by omega), Int.bmod_eq_of_le (by omega) (by omega)]
  omega
theorem nI_le30 {m : Nat} (h : m ≤ 1000) : nI m ≤ 1073741824 := Int32.le_trans (nI_le (b := 1000) h (by omega)) (by decide)
/-- a chunk that is there, and values that are no greater than the missing one -/
def KOk (cm : CM) (k : Nat) : Prop := ∃ R, R ≤ 160 ∧ 16 * k < R ∧ cm 0 0 0 = nI R
def BOk (cm : CM) : Prop := ∀ j, j < 640 → v5 (cm 7 0 j)
def rN (cm : CM) (k : Nat) : Nat := nn (roN cm (nI k))
theorem rN_16 {cm : CM} {k : Nat} (h : KOk cm k) : roN cm (nI k) = nI (rN cm k) ∧ rN cm k ≤ 16 ∧ 16 * k + rN cm k ≤ 160 := by
  obtain ⟨R, h1, h2, h3⟩ := h
  rw [rN, roN_nI h1 h3 h2, nn_nI (by omega)]
  exact ⟨rfl, by omega, by omega⟩
/-! ===== the best of the ways ===== -/
def wy (i : Nat) : Int32 := if i = 1 then 114 else if i = 2 then 100 else 111
def bst (v : Nat → Int32) (n : Nat) : Nat → Int32
  | 0 => 112
  | i + 1 => if bbF v n (wy (i + 1)) < bbF v n (bst v n i) then wy (i + 1) else bst v n i


