-- deps: 51.rows 52.bounds 30.mo10
/-! ===== the class: chunks ===== -/
def o_tbl (lo : Nat) (ts : List Nat) (df : Nat) : Op := fun lv st f bc bs _ B _ _ => match st with | .int x :: r => ∃ j : Nat, x = nI j ∧ j < 2147483648 ∧ B (if lo ≤ j then ts.getD (j - lo) df else df) lv r f bc bs | _ => False
theorem e_tbl (lo : Nat) (ts : List Nat) (df : Nat) (lv : LV) (x : Int32) (r : List Value) (f : AH) (bc bs : Nat) (K : Kx) (B : Bx) (Q : Option Value → AH → Prop) (X : String → AH → Prop) : o_tbl lo ts df lv (.int x :: r) f bc bs K B Q X = (∃ j : Nat, x = nI j ∧ j < 2147483648 ∧ B (if lo ≤ j then ts.getD (j - lo) df else df) lv r f bc bs) := (rfl)
theorem ok_tbl {M : MI} {pc len lo df : Nat} {dflt hi : Int} {offs : Array Int} {ts : List Nat} (hd : (pc : Int) + dflt = (df : Int)) (hh : hi = (lo : Int) + ts.length - 1) (hs : ∀ k, k < ts.length → offs[k]? = some ((ts.getD k df : Int) - pc)) (d : decode M.2.1 pc = .ok (.tableswitch dflt (lo : Int) hi offs, len)) : OpOk M pc len (o_tbl lo ts df) := by
  intro C Q X hC K hK B' hB lv st f bc bs h
  obtain ⟨⟨g, MC, MS⟩, ⟨p, l, e, R⟩, ⟨s, m, args, below, meth, c⟩, Qf⟩ := C
  obtain ⟨hx, hb, hml, hown, hw, hlk, hE, hst, hR, hex, hin, hrt, hQ, hgl⟩ := hC
  intro ls H locs cells slots hl hrep hS hc1 hc2
  simp only [o_tbl] at h
  split at h
  · obtain ⟨j, rfl, hj, h⟩ := h
    have ht := nI_toInt (n := j) hj
    by_cases h1 : lo ≤ j ∧ j - lo < ts.length
    · have h2 := hs (j - lo) h1.2
      have e9 : ((nI j).toInt - (lo : Int)).toNat = j - lo := by rw [ht]; omega
      refine lv_tableIn hx hb (tgt := ts.getD (j - lo) df) d (by rw [ht]; omega) (by rw [ht]; omega) (by rw [e9]; exact h2) (by omega) ?_
      rw [if_pos h1.1] at h
      exact hB _ _ _ _ _ _ h ls H locs cells slots hl hrep hS hc1 hc2
    · refine lv_tableOut hx hb d (by rw [ht]; omega) hd ?_
      have h3 : (if lo ≤ j then ts.getD (j - lo) df else df) = df := by
        by_cases h4 : lo ≤ j
        · rw [if_pos h4, List.getD_eq_getElem?_getD, List.getElem?_eq_none (by omega)]
          rfl
        · rw [if_neg h4]
      rw [h3] at h
      exact hB _ _ _ _ _ _ h ls H locs cells slots hl hrep hS hc1 hc2
  · exact h.elim
theorem kd_ge {sh : Sh} {i : Nat} (h : kd sh i = 2) : 100 ≤ i := by
  rcases Nat.lt_or_ge i 100 with h1 | h1
  · exfalso
    unfold kd at h
    by_cases h2 : i < 19
    · simp only [if_pos h2] at h
      by_cases h5 : i = 5
      · subst h5
        revert h
        simp only [if_true]
        split <;> omega
      · by_cases h8 : i = 8
        · subst h8
          revert h
          simp only [if_true, if_neg (show ¬ (8 : Nat) = 5 by decide)]
          split <;> omega
        · by_cases h15 : i = 15
          · subst h15
            revert h
            simp only [if_true, if_neg (show ¬ (15 : Nat) = 5 by decide), if_neg (show ¬ (15 : Nat) = 8 by decide)]
            split <;> omega
          · simp only [if_neg h5, if_neg h8, if_neg h15] at h
            exact absurd h ((by decide : ∀ i, i < 19 → ¬ kd0 i = 2) i h2)
    · rw [if_neg h2, if_pos h1] at h
      exact absurd h (by decide)
  · exact h1
def cv (V : CV) (o c i : Nat) : Int32 := V (o + 1) (4 * i + c)
def CkOk (sh : Sh) (V : CV) (o : Nat) : Prop := sh.N (o + 1) = 64 ∧ BdOk sh (o + 2) ∧ ∃ n, n ≤ 16 ∧ V o 3 = nI n

