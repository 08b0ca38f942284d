-- deps: 30.mo10 31.str
/-! ===== the reference: the best way, the bits ===== -/
theorem bst_ch (v : Nat → Int32) (n : Nat) : ∀ i, ∃ q : Nat, q < 65536 ∧ bst v n i = nI q
  | 0 => ⟨112, by omega, rfl⟩
  | i + 1 => by
    rw [bst]
    split
    · rw [wy]
      split
      · exact ⟨114, by omega, rfl⟩
      · split
        · exact ⟨100, by omega, rfl⟩
        · exact ⟨111, by omega, rfl⟩
    · exact bst_ch v n i
def btC (cm : CM) (k c : Nat) : Int32 := bbF (bv cm k c) (rN cm k) (bst (bv cm k c) (rN cm k) 3)
theorem noPlace_K {cm : CM} {k c : Int32} (hb : Nb (cm 0 0 0) 160) (h : noPlace cm k c = false) : ∃ a b, a < 10 ∧ b < 4 ∧ k = nI a ∧ c = nI b ∧ KOk cm a := by
  obtain ⟨a, b, h1, h2, h3, rfl, rfl⟩ := noPlace_f hb h
  obtain ⟨R, h4, h5⟩ := hb
  exact ⟨a, b, h1, h3, rfl, rfl, R, h4, nb_chunk h4 h5 h2 h1, h5⟩
theorem KOk_cg {cm cm' : CM} {k : Nat} (h : cm' 0 = cm 0) (hK : KOk cm k) : KOk cm' k := by
  unfold KOk
  rw [h]
  exact hK
theorem BOk_cg {cm cm' : CM} (h : cm' 7 = cm 7) (hK : BOk cm) : BOk cm' := by
  unfold BOk
  rw [h]
  exact hK

