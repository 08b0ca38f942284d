-- deps: 23.mo3
/-! ===== the reference: a scan's memory ===== -/
theorem tdR {X m : Int} (hm : 0 < m) (h1 : -2147483648 ≤ X) (h2 : X < 2147483648) : -2147483648 ≤ X.tdiv m ∧ X.tdiv m < 2147483648 ∧ (0 ≤ X → 0 ≤ X.tmod m ∧ X.tmod m < m) ∧ (X < 0 → -m < X.tmod m ∧ X.tmod m ≤ 0) := by
  refine ⟨?_, ?_, fun h => ?_, fun h => ?_⟩
  · rcases Int.lt_or_le X 0 with h | h
    · have e : X.tdiv m = -((-X).tdiv m) := by rw [Int.neg_tdiv, Int.neg_neg]
      rw [e, Int.tdiv_eq_ediv_of_nonneg (by omega)]
      have := Int.ediv_le_self m (show 0 ≤ -X by omega)
      omega
    · rw [Int.tdiv_eq_ediv_of_nonneg h]
      have := Int.ediv_nonneg h (Int.le_of_lt hm)
      omega
  · rcases Int.lt_or_le X 0 with h | h
    · have e : X.tdiv m = -((-X).tdiv m) := by rw [Int.neg_tdiv, Int.neg_neg]
      rw [e, Int.tdiv_eq_ediv_of_nonneg (by omega)]
      have := Int.ediv_nonneg (show 0 ≤ -X by omega) (Int.le_of_lt hm)
      omega
    · rw [Int.tdiv_eq_ediv_of_nonneg h]
      have := Int.ediv_le_self m h
      omega
  · rw [Int.tmod_eq_emod_of_nonneg h]
    exact ⟨Int.emod_nonneg _ (by omega), Int.emod_lt_of_pos _ hm⟩
  · have e : X.tmod m = -((-X).tmod m) := by rw [Int.neg_tmod, Int.neg_neg]
    rw [e, Int.tmod_eq_emod_of_nonneg (by omega)]
    have a := Int.emod_nonneg (-X) (show m ≠ 0 by omega)
    have b := Int.emod_lt_of_pos (-X) hm
    omega
theorem xor_neg {x y : Int32} (h : 0 ≤ y) : (x ^^^ y) < 0 ↔ x < 0 := by
  have e : ∀ z : Int32, z < 0 ↔ z.toBitVec.msb = true := fun z => by
    rw [Int32.lt_iff_toBitVec_slt]
    exact (Bool.eq_iff_iff.mp BitVec.slt_zero_eq_msb)
  have hy : y.toBitVec.msb = false := by
    cases q : y.toBitVec.msb
    · rfl
    · exact absurd ((e y).mpr q) (Int32.not_lt.mpr h)
  rw [e, e, Int32.toBitVec_xor, BitVec.msb_xor, hy, Bool.xor_false]
theorem flm_nI (x : Int32) {m : Nat} (h0 : 0 < m) (hm : m < 2147483648) : ∃ p, p < m ∧ flm x (nI m) = nI p ∧ (p : Int) = x.toInt % (m : Int) := by
  have hM := nI_toInt (n := m) hm
  have hX1 : -2147483648 ≤ x.toInt := Int32.le_toInt x
  have hX2 : x.toInt < 2147483648 := Int32.toInt_lt x
  obtain ⟨t1, t2, t3, t4⟩ := tdR (X := x.toInt) (m := m) (by omega) hX1 hX2
  have hd := Int.mul_tdiv_add_tmod x.toInt m
  have er : (x - x / nI m * nI m).toInt = x.toInt.tmod m := by
    rw [Int32.toInt_sub, Int32.toInt_mul, Int32.toInt_div, hM, Int.bmod_eq_of_le (n := x.toInt.tdiv m) (by omega) (by omega)]
    rw [Int.mul_comm]
    generalize (m : Int) * x.toInt.tdiv m = z at hd
    rcases Int.lt_or_le x.toInt 0 with h | h
    · have := t4 h
      rw [Int.bmod_eq_of_le (n := z) (by omega) (by omega), Int.bmod_eq_of_le (by omega) (by omega)]
      omega
    · have := t3 h
      rw [Int.bmod_eq_of_le (n := z) (by omega) (by omega), Int.bmod_eq_of_le (by omega) (by omega)]
      omega
  have hz : (x - x / nI m * nI m = 0) ↔ x.toInt.tmod m = 0 := by
    rw [← Int32.toInt_inj, er]
    rfl
  have hx0 : x < 0 ↔ x.toInt < 0 := Int32.lt_iff_toInt_lt
  have hy0 : (0 : Int32) ≤ nI m := Int32.le_iff_toInt_le.mpr (by rw [hM]; exact Int.natCast_nonneg m)
  have key : ∀ q : Int, 0 ≤ q → q < m → q = x.toInt % m → ∀ w : Int32, w.toInt = q → ∃ p, p < m ∧ w = nI p ∧ (p : Int) = x.toInt % (m : Int) := fun q h1 h2 h3 w hw => ⟨q.toNat, by omega, Int32.toInt_inj.mp (by rw [hw, nI_toInt (by omega)]; omega), by omega⟩
  rw [flm]
  by_cases hc : (x ^^^ nI m) < 0 ∧ ¬ (x - x / nI m * nI m = 0)
  · rw [if_pos hc]
    obtain ⟨c1, c2⟩ := hc
    rw [xor_neg hy0, hx0] at c1
    rw [hz] at c2
    have := t4 c1
    refine key (x.toInt.tmod m + m) (by omega) (by omega) ?_ _ ?_
    · rw [← Int.emod_eq_of_lt (a := x.toInt.tmod m + m) (b := m) (by omega) (by omega)]
      rw [Int.add_emod_right]
      conv => rhs; rw [← hd]
      rw [Int.mul_add_emod_self_left]
    · rw [Int32.toInt_add, er, hM, Int.bmod_eq_of_le (by omega) (by omega)]
  · rw [if_neg hc]
    have h5 : 0 ≤ x.toInt.tmod m ∧ x.toInt.tmod m < m := by
      rcases Int.lt_or_le x.toInt 0 with h | h
      · have h6 : x.toInt.tmod m = 0 := by
          rw [← hz]
          exact Classical.byContradiction fun q => hc ⟨(xor_neg hy0).mpr (hx0.mpr h), q⟩
        omega
      · exact t3 h
    refine key (x.toInt.tmod m) h5.1 h5.2 ?_ _ er
    rw [← Int.emod_eq_of_lt h5.1 h5.2]
    conv => rhs; rw [← hd]
    rw [Int.mul_add_emod_self_left]
def rkI (x : Int32) : Int32 := if x = 5000 then -5000 else x
def prt (x : Int32) : Int32 := if x = 5000 then 0 else flm x 4
theorem prt_lt (x : Int32) : ∃ p, p < 4 ∧ prt x = nI p := by
  rw [prt]
  split
  · exact ⟨0, by omega, rfl⟩
  · obtain ⟨p, h1, h2, -⟩ := flm_nI x (m := 4) (by omega) (by omega)
    exact ⟨p, h1, h2⟩
def inM (cm : CM) (s : Nat) : Int32 := cm 36 0 (4 * s) + cm 36 0 (4 * s + 1) + cm 36 0 (4 * s + 2) + cm 36 0 (4 * s + 3)
/-- the fullest part -/
def fuM (v : Nat → Int32) : Nat → Nat
  | 0 => 0
  | p + 1 => if v (fuM v p) < v (p + 1) then p + 1 else fuM v p
theorem fuM_le (v : Nat → Int32) : ∀ p, fuM v p ≤ p
  | 0 => Nat.le_refl _
  | p + 1 => by
    rw [fuM]
    split
    · exact Nat.le_refl _
    · exact Nat.le_succ_of_le (fuM_le v p)
def pv (cm : CM) (s p : Nat) : Int32 := cm 36 0 (4 * s + p)
def spI (cm : CM) (s m g : Nat) : Int32 := cm 44 s g &&& (if prt (cm 38 s g) = nI m then 0 else 1)
def spA (cm : CM) (s m : Nat) : CM := c3 (c3 (c3 cm 35 0 (4 * s + m) 1) 36 0 (4 * s + m) 0) 31 0 s (cm 31 0 s + 1)
def spC (cm : CM) (s : Nat) : CM := rowU (spA cm s (fuM (pv cm s) 3)) 44 s (spI cm s (fuM (pv cm s) 3)) (nn (cm 34 0 s))
theorem and_01 {x y : Int32} (h1 : x = 0 ∨ x = 1) (h2 : y = 0 ∨ y = 1) : (x &&& y) = 0 ∨ (x &&& y) = 1 := by
  rcases h1 with rfl | rfl <;> rcases h2 with rfl | rfl <;> simp
/-- the first place of a key among so many from g on -/
def gix (v : Nat → Int32) (k : Int32) : Nat → Nat → Nat
  | 0, g => g
  | n + 1, g => if v g = k then g else gix v k n (g + 1)
theorem gix_le (v : Nat → Int32) (k : Int32) : ∀ n g, gix v k n g ≤ g + n
  | 0, g => Nat.le_refl _
  | n + 1, g => by
    rw [gix]
    split
    · omega
    · have := gix_le v k n (g + 1); omega
def grN (cm : CM) (s : Nat) (k : Int32) : Nat := gix (cm 38 s) k (nn (cm 34 0 s)) 0
def grC (cm : CM) (s : Nat) (k : Int32) : CM := if grN cm s k < nn (cm 34 0 s) then cm else c3 (c3 cm 38 s (nn (cm 34 0 s)) k) 34 0 s (cm 34 0 s + 1)

