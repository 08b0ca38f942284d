-- deps: 30.mo10 33.mo12 37.mo16 38.mo17
/-! ===== the reference: a scan looks at a chunk ===== -/
theorem soC2_n {cm : CM} {s k : Nat} (h : k ≠ 51) (n : Nat) : soC cm s n k = cm k := soC_n h n
theorem tkV_n {cm : CM} {s g k : Nat} {v : Int32} (h1 : k ≠ 39) (h2 : k ≠ 40) (h3 : k ≠ 41) (h4 : k ≠ 42) (h5 : k ≠ 43) : tkV cm s g v k = cm k := by
  rw [tkV]
  split
  · rw [c3_n h1]
  · rw [c3_n h3, c3_n h2, c3_n h5, c3_n h4, c3_n h1]
theorem tkC_n {cm : CM} {s r k : Nat} (h1 : k ≠ 31) (h2 : k ≠ 32) (h3 : k ≠ 34) (h4 : k ≠ 35) (h5 : k ≠ 36) (h6 : k ≠ 38) (h7 : k ≠ 39) (h8 : k ≠ 40) (h9 : k ≠ 41) (ha : k ≠ 42) (hb : k ≠ 43) (hc : k ≠ 44) : tkC cm s r k = cm k := by
  rw [tkC, tkV_n h7 h8 h9 ha hb, tkM_n hc h5 h2, tkS_n h1 h4 h5 hc, grC_n h3 h6]
theorem tkC_TOk {cm : CM} {s r : Nat} (h : TOk cm s) (hN : grN cm s (tkK cm s r) < 160) : TOk (tkC cm s r) s := by
  obtain ⟨h1, h2, h3, ⟨G, g1, g2⟩, h5⟩ := h
  refine ⟨?_, ?_, ?_, ?_, ?_⟩
  · rw [tkC_n (by decide) (by decide) (by decide) (by decide) (by decide) (by decide) (by decide) (by decide) (by decide) (by decide) (by decide) (by decide)]
    exact h1
  · rw [tkC_n (by decide) (by decide) (by decide) (by decide) (by decide) (by decide) (by decide) (by decide) (by decide) (by decide) (by decide) (by decide)]
    exact h2
  · rw [tkC_n (by decide) (by decide) (by decide) (by decide) (by decide) (by decide) (by decide) (by decide) (by decide) (by decide) (by decide) (by decide)]
    exact h3
  · rw [tkC, tkV_n (by decide) (by decide) (by decide) (by decide) (by decide), tkM_n (by decide) (by decide) (by decide), tkS_n (by decide) (by decide) (by decide) (by decide), grC]
    split
    · exact ⟨G, g1, g2⟩
    · next hn =>
      have h9 := gix_le (cm 38 s) (tkK cm s r) (nn (cm 34 0 s)) 0
      rw [← grN] at h9
      rw [g2, nn_nI (by omega)] at hn h9
      refine ⟨G + 1, by omega, ?_⟩
      rw [c3_s, upd_s, g2, nI_1]
  · intro g
    rw [tkC, tkV_n (by decide) (by decide) (by decide) (by decide) (by decide)]
    generalize grN cm s (tkK cm s r) = y
    have hq : ∀ g, b01 (tkS (grC cm s (tkK cm s r)) s y (nn (prt (tkK cm s r))) 44 s g) := by
      intro g
      have h6 : ∀ g, b01 (grC cm s (tkK cm s r) 44 s g) := by rw [grC_n (by decide) (by decide)]; exact h5
      rw [tkS]
      split
      · split
        · split
          · exact h6 g
          · exact spC_44 h6 g
        · exact h6 g
      · exact h6 g
    generalize tkS (grC cm s (tkK cm s r)) s y (nn (prt (tkK cm s r))) = c at hq
    rw [tkM]
    split
    · split
      · rw [c3_n (by decide), c3_s]
        rcases Nat.decEq g y with e | rfl
        · rw [upd_n _ _ e]; exact hq g
        · rw [upd_s]; exact Or.inr rfl
      · exact hq g
    · rw [c3_n (by decide)]
      exact hq g
def loA (cm : CM) (s : Nat) : CM := c3 (c3 cm 37 0 (10 * s + nn (cm 5 0 0)) 1) 29 0 s (cm 29 0 s + 1)
def loT (c : CM) (s f row : Nat) : Bool := aliveM c row (c 27 0 s) && decide (trF c row (c 27 0 s) 30 f = 1)
def loR (c : CM) (s P f : Nat) : Nat → CM
  | 0 => c
  | i + 1 => if loT (loR c s P f i) s f (16 * P + i) then tkC (loR c s P f i) s (16 * P + i) else loR c s P f i
def loB (cm : CM) (s : Nat) : Bool := !decide (cnF cm (nn (cm 5 0 0)) 30 (nn (cm 23 0 s)) &&& 1 = 0)
def loC (cm : CM) (s : Nat) : CM := if loB cm s then loR (loA cm s) s (nn (cm 5 0 0)) (nn (cm 23 0 s)) (rN cm (nn (cm 5 0 0))) else c3 (loA cm s) 30 0 s (cm 30 0 s + 1)
def loL (cm : CM) (cl : CL) (s : Nat) : CL := if loB cm s then cl1 cl 47 (cl 47 + 1) else cl1 (cl1 cl 47 (cl 47 + 1)) 48 (cl 48 + 1)
def LoOk (cm : CM) (s : Nat) : Prop := s < 40 ∧ (∃ P, P < 10 ∧ cm 5 0 0 = nI P ∧ KOk cm P) ∧ FOk cm ∧ (∃ j, j < nn (cm 3 0 0) ∧ cm 23 0 s = nI j) ∧ LOk cm ∧ TOk cm s ∧ ∀ i, i < rN cm (nn (cm 5 0 0)) → grN (loR (loA cm s) s (nn (cm 5 0 0)) (nn (cm 23 0 s)) i) s (tkK (loR (loA cm s) s (nn (cm 5 0 0)) (nn (cm 23 0 s)) i) s (16 * nn (cm 5 0 0) + i)) < 160
theorem cnF_cg {cm cm' : CM} (h14 : cm' 14 = cm 14) (h15 : cm' 15 = cm 15) (h17 : cm' 17 = cm 17) (h18 : cm' 18 = cm 18) (h19 : cm' 19 = cm 19) (h20 : cm' 20 = cm 20) (h21 : cm' 21 = cm 21) (k : Nat) : ∀ d f, cnF cm' k d f = cnF cm k d f
  | 0, _ => rfl
  | d + 1, f => by simp only [cnF, h14, h15, h17, h18, h19, h20, h21, cnF_cg h14 h15 h17 h18 h19 h20 h21 k d]

