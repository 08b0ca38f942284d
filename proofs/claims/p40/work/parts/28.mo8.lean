-- deps: 23.mo3
/-! ===== the reference: rows put in and taken out ===== -/
def lvF (cm : CM) (k : Nat) : Int32 := if cm 9 0 k = 0 then 1 else 0
def rmC (cm : CM) (r : Nat) : CM := tchC (c3 (c3 (c3 cm 1 0 0 (cm 1 0 0 + 1)) 9 0 r (cm 1 0 0 + 1)) 16 0 (r / 16) (cm 16 0 (r / 16) + 1)) (-1)
def rmM (cm : CM) (r : Int32) : Int32 × CM :=
  if inR r 0 (cm 0 0 0 - 1) = false then (0, thr cm true 1) else
  if 0 < cm 9 0 (nn r) then (0, thr (thr cm false 1) true 2) else
  (sumI (lvF (rmC (thr (thr cm false 1) false 2) (nn r))) (nn (cm 0 0 0)), rmC (thr (thr cm false 1) false 2) (nn r))
/-! ===== load ===== -/
/-- the row that is laid as the i-th one -/
def ldRow (cm : CM) (first step turn : Int32) (i : Nat) : CM :=
  c3 (c3 (c3 (c3 (c3 (c3 (c3 cm 6 0 (4 * nn (cm 0 0 0)) (flm (first + nI i * step) turn)) 6 0 (4 * nn (cm 0 0 0) + 1) (flm (first + nI i * step) turn * flm (first + nI i * step) turn - flm (first + nI i * step) turn * flm (first + nI i * step) turn / 37 * 37)) 6 0 (4 * nn (cm 0 0 0) + 2) (nI i / 4)) 6 0 (4 * nn (cm 0 0 0) + 3) (flm (first + nI i * step) turn - flm (first + nI i * step) turn / 3 * 3)) 8 0 (nn (cm 0 0 0)) (cm 1 0 0)) 9 0 (nn (cm 0 0 0)) 0) 0 0 0 (cm 0 0 0 + 1)
/-- its columns taken in -/
def ldCol (cm : CM) (R : Nat) : Nat → CM
  | 0 => cm
  | j + 1 => wdC (c3 (ldCol cm R j) 7 0 (4 * R + j) (ldCol cm R j 6 0 (4 * R + j))) R j (ldCol cm R j 6 0 (4 * R + j))
def ldC (cm : CM) (first step turn : Int32) : Nat → CM
  | 0 => cm
  | i + 1 => ldCol (ldRow (ldC cm first step turn i) first step turn i) (nn (ldC cm first step turn i 0 0 0)) 4
theorem ldRow_n {cm : CM} {a b c : Int32} {i k : Nat} (h0 : k ≠ 0) (h6 : k ≠ 6) (h8 : k ≠ 8) (h9 : k ≠ 9) : ldRow cm a b c i k = cm k := by
  rw [ldRow, c3_n h0, c3_n h9, c3_n h8, c3_n h6, c3_n h6, c3_n h6, c3_n h6]
theorem ldCol_n {cm : CM} {R k : Nat} (h7 : k ≠ 7) (h1 : k ≠ 14) (h2 : k ≠ 15) (h3 : k ≠ 17) (h4 : k ≠ 18) : ∀ j, ldCol cm R j k = cm k
  | 0 => rfl
  | j + 1 => by rw [ldCol, wdC_n h1 h2 h3 h4, c3_n h7, ldCol_n h7 h1 h2 h3 h4 j]
theorem ldC_n {cm : CM} {a b c : Int32} {k : Nat} (h0 : k ≠ 0) (h6 : k ≠ 6) (h8 : k ≠ 8) (h9 : k ≠ 9) (h7 : k ≠ 7) (h1 : k ≠ 14) (h2 : k ≠ 15) (h3 : k ≠ 17) (h4 : k ≠ 18) : ∀ i, ldC cm a b c i k = cm k
  | 0 => rfl
  | i + 1 => by rw [ldC, ldCol_n h7 h1 h2 h3 h4, ldRow_n h0 h6 h8 h9, ldC_n h0 h6 h8 h9 h7 h1 h2 h3 h4 i]
theorem ldC_0 {cm : CM} {a b c : Int32} {R : Nat} (h : cm 0 0 0 = nI R) : ∀ i, ldC cm a b c i 0 0 0 = nI (R + i)
  | 0 => h
  | i + 1 => by
    rw [ldC, ldCol_n (by decide) (by decide) (by decide) (by decide) (by decide), ldRow, c3_s, upd_s, ldC_0 h i]
    exact nI_add _ 1
def ldOk (many first step turn : Int32) : Bool := inR many 1 40 && (inR first (-999) 999 && (inR step (-99) 99 && inR turn 1 999))
def ldM (cm : CM) (many first step turn : Int32) : Int32 × CM :=
  if ldOk many first step turn = false then (0, thr cm true 1) else
  if 160 < cm 0 0 0 + many then (0, thr (thr cm false 1) true 2) else
  (cm 0 0 0 + many, tchC (ldC (c3 (thr (thr cm false 1) false 2) 1 0 0 (cm 1 0 0 + 1)) first step turn (nn many)) (-1))
theorem inR_1 {v : Int32} {m : Nat} (hm : m < 2147483648) (h : inR v 1 (nI m - 1) = true) : ∃ j : Nat, 0 < j ∧ j < m ∧ v = nI j := by
  simp only [inR, Bool.and_eq_true, decide_eq_true_eq] at h
  obtain ⟨j, hj, rfl⟩ := (inR_nI hm).mp (show inR v 0 (nI m - 1) = true by
    simp only [inR, Bool.and_eq_true, decide_eq_true_eq]
    exact ⟨Int32.le_trans (by decide) h.1, h.2⟩)
  refine ⟨j, ?_, hj, rfl⟩
  rcases Nat.eq_zero_or_pos j with rfl | h0
  · exact absurd h.1 (by decide)
  · exact h0

