/-! ===== the reference: what it tells of chunks, filters, scans ===== -/
theorem wpF_0 (L : List (Nat × Blk)) (B : Bx) (Q : Option Value → AH → Prop) (X : String → AH → Prop) (pc : Nat) (lv : LV) (st : List Value) (f : AH) (bc bs : Nat) : wpF L [] B Q X pc lv st f bc bs = B pc lv st f bc bs := (rfl)
theorem chN_nI {cm : CM} {n : Nat} (hn : n ≤ 160) (h : cm 0 0 0 = nI n) : chN cm = nI ((n + 15) / 16) := by
  rw [chN, h, show nI n + 16 = nI (n + 16) from nI_add n 16, show n + 16 = (n + 15) + 1 by omega, nI_pred, nI_d16 (by omega)]
theorem nb_inR {x : Int32} {N : Int32} {n : Nat} (hn : n < 2147483648) (e : N = nI n) (h : inR x 0 (N - 1) = true) : ∃ a, a < n ∧ x = nI a := by
  rw [e] at h
  exact (inR_nI hn).mp h
def noPlace (cm : CM) (k c : Int32) : Bool := !(inR k 0 (chN cm - 1) && inR c 0 3)
theorem noPlace_f {cm : CM} {k c : Int32} (hb : Nb (cm 0 0 0) 160) (h : noPlace cm k c = false) : ∃ a b, a < 10 ∧ nI a < chN cm ∧ b < 4 ∧ k = nI a ∧ c = nI b := by
  obtain ⟨n, hn, e⟩ := hb
  rw [noPlace, chN_nI hn e, Bool.not_eq_false', Bool.and_eq_true] at h
  obtain ⟨a, ha, rfl⟩ := (inR_nI (by omega)).mp h.1
  obtain ⟨b, hb, rfl⟩ := (inR_nI (m := 4) (by omega)).mp h.2
  exact ⟨a, b, by omega, by rw [chN_nI hn e]; exact nI_lt (by omega) (by omega), by omega, rfl, rfl⟩
def noChunk (cm : CM) (k : Int32) : Bool := !inR k 0 (chN cm - 1)
theorem noChunk_f {cm : CM} {k : Int32} (hb : Nb (cm 0 0 0) 160) (h : noChunk cm k = false) : ∃ a, a < 10 ∧ nI a < chN cm ∧ k = nI a := by
  obtain ⟨n, hn, e⟩ := hb
  rw [noChunk, chN_nI hn e, Bool.not_eq_false'] at h
  obtain ⟨a, ha, rfl⟩ := (inR_nI (by omega)).mp h
  exact ⟨a, by omega, by rw [chN_nI hn e]; exact nI_lt (by omega) (by omega), rfl⟩
def noFil (cm : CM) (k : Int32) : Bool := !inR k 0 (cm 3 0 0 - 1)
theorem noFil_f {cm : CM} {k : Int32} (hb : Nb (cm 3 0 0) 30) (h : noFil cm k = false) : ∃ a, a < nn (cm 3 0 0) ∧ a < 30 ∧ k = nI a := by
  obtain ⟨n, hn, e⟩ := hb
  rw [noFil, e, Bool.not_eq_false'] at h
  obtain ⟨a, ha, rfl⟩ := (inR_nI (by omega)).mp h
  exact ⟨a, by rw [e, nn_nI (by omega)]; exact ha, by omega, rfl⟩
def noScan (cm : CM) (k : Int32) : Bool := !inR k 0 (cm 4 0 0 - 1)
theorem noScan_f {cm : CM} {k : Int32} (hb : Nb (cm 4 0 0) 40) (h : noScan cm k = false) : ∃ a, a < nn (cm 4 0 0) ∧ a < 40 ∧ k = nI a := by
  obtain ⟨n, hn, e⟩ := hb
  rw [noScan, e, Bool.not_eq_false'] at h
  obtain ⟨a, ha, rfl⟩ := (inR_nI (by omega)).mp h
  exact ⟨a, by rw [e, nn_nI (by omega)]; exact ha, by omega, rfl⟩
def leastM (fl : Nat) (cm : CM) (k c : Int32) : Int32 × CM :=
  if noPlace cm k c then (0, thr cm true 1) else
  if cm 17 0 (4 * nn k + nn c) = 0 then (0, thr (thr cm false 1) true 2) else (cm fl 0 (4 * nn k + nn c), thr (thr cm false 1) false 2)
def sumI (F : Nat → Int32) : Nat → Int32
  | 0 => 0
  | n + 1 => sumI F n + F n
def opF (cm : CM) (k : Nat) : Int32 := if cm 33 0 k = 0 then 1 else 0
def opN (cm : CM) : Int32 := sumI (opF cm) (nn (cm 4 0 0))

