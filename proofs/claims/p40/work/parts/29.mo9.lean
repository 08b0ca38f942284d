-- deps: 23.mo3
/-! ===== the reference: a chunk mended ===== -/
def mdV (cm : CM) (r col : Nat) : Int32 := if 0 < cm 9 0 r then 5000 else lk cm r col (cm 1 0 0)
def mdR (cm : CM) (r col : Nat) : CM :=
  if cm 9 0 r = 0 then wdC (c3 cm 7 0 (4 * r + col) (mdV cm r col)) r col (mdV cm r col) else c3 cm 7 0 (4 * r + col) (mdV cm r col)
def mdCol (cm : CM) (k col : Nat) : Nat → CM
  | 0 => c3 (c3 cm 17 0 (4 * k + col) 0) 18 0 (4 * k + col) 0
  | i + 1 => mdR (mdCol cm k col i) (16 * k + i) col
def mdC (cm : CM) (k n : Nat) : Nat → CM
  | 0 => cm
  | col + 1 => mdCol (mdC cm k n col) k col n
theorem mdR_n {cm : CM} {r col k : Nat} (h7 : k ≠ 7) (h1 : k ≠ 14) (h2 : k ≠ 15) (h3 : k ≠ 17) (h4 : k ≠ 18) : mdR cm r col k = cm k := by
  rw [mdR]
  split
  · rw [wdC_n h1 h2 h3 h4, c3_n h7]
  · rw [c3_n h7]
theorem mdCol_n {cm : CM} {q col k : Nat} (h7 : k ≠ 7) (h1 : k ≠ 14) (h2 : k ≠ 15) (h3 : k ≠ 17) (h4 : k ≠ 18) : ∀ i, mdCol cm q col i k = cm k
  | 0 => by rw [mdCol, c3_n h4, c3_n h3]
  | i + 1 => by rw [mdCol, mdR_n h7 h1 h2 h3 h4, mdCol_n h7 h1 h2 h3 h4 i]
theorem mdC_n {cm : CM} {q n k : Nat} (h7 : k ≠ 7) (h1 : k ≠ 14) (h2 : k ≠ 15) (h3 : k ≠ 17) (h4 : k ≠ 18) : ∀ i, mdC cm q n i k = cm k
  | 0 => rfl
  | i + 1 => by rw [mdC, mdCol_n h7 h1 h2 h3 h4, mdC_n h7 h1 h2 h3 h4 i]
theorem roN_nI {cm : CM} {R k : Nat} (hR : R ≤ 160) (h : cm 0 0 0 = nI R) (hk : 16 * k < R) : roN cm (nI k) = nI (min 16 (R - 16 * k)) := by
  have e : nI R - 16 * nI k = nI (R - 16 * k) := by
    rw [nI_16m]
    exact (Int32.ofNat_sub R (16 * k) (by omega)).symm
  rw [roN, h, e, imin]
  by_cases h2 : R - 16 * k < 16
  · rw [if_pos (show nI (R - 16 * k) < 16 from nI_lt (b := 16) h2 (by omega)), Nat.min_eq_right (by omega)]
  · rw [if_neg (show ¬ nI (R - 16 * k) < 16 from nI_nlt (b := 16) (by omega) (by omega)), Nat.min_eq_left (by omega)]
    rfl
theorem nb_chunk {cm : CM} {R k : Nat} (hR : R ≤ 160) (h : cm 0 0 0 = nI R) (hk : nI k < chN cm) (hk2 : k < 10) : 16 * k < R := by
  rw [chN_nI hR h] at hk
  have := (nI_ltI (by omega) (by omega)).mp hk
  omega
def mdM (cm : CM) (k : Int32) : Int32 × CM :=
  if noChunk cm k then (0, thr cm true 1) else
  if 0 < opN cm then (0, thr (thr cm false 1) true 2) else
  (cm 16 0 (nn k), c3 (mdC (thr (thr cm false 1) false 2) (nn k) (nn (roN cm (nI (nn k)))) 4) 16 0 (nn k) 0)

