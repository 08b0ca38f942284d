-- deps: 23.mo3
/-! ===== the reference: scans asked, results ===== -/
def noRes (cm : CM) (k : Int32) : Bool := noScan cm k || decide (cm 33 0 (nn k) = 0)
def noResC (cm : CM) (k : Int32) : CM := if noScan cm k then thr cm true 1 else thr (thr cm false 1) (decide (cm 33 0 (nn k) = 0)) 2
theorem noResC_n {cm : CM} {x : Int32} {k : Nat} (h : k ≠ 49) : noResC cm x k = cm k := by
  rw [noResC]
  split
  · rw [thr_n h]
  · rw [thr_n h, thr_n h]
theorem noRes_f {cm : CM} {k : Int32} (hb : Nb (cm 4 0 0) 40) (h : noRes cm k = false) : ∃ a, a < nn (cm 4 0 0) ∧ a < 40 ∧ k = nI a ∧ ¬ cm 33 0 a = 0 ∧ noResC cm k = thr (thr cm false 1) false 2 := by
  rw [noRes, Bool.or_eq_false_iff] at h
  obtain ⟨a, h1, h2, rfl⟩ := noScan_f hb h.1
  have h3 := h.2
  rw [nn_nI (by omega), decide_eq_false_iff_not] at h3
  refine ⟨a, h1, h2, rfl, h3, ?_⟩
  rw [noResC, if_neg (by rw [h.1]; decide), nn_nI (by omega), decide_eq_false h3]
def noGrp (cm : CM) (k i : Int32) : Bool := noRes cm k || !inR i 0 (cm 34 0 (nn k) - 1)
def noGrpC (cm : CM) (k i : Int32) : CM := if noRes cm k then noResC cm k else thr (noResC cm k) (!inR i 0 (cm 34 0 (nn k) - 1)) 3
theorem noGrpC_n {cm : CM} {x i : Int32} {k : Nat} (h : k ≠ 49) : noGrpC cm x i k = cm k := by
  rw [noGrpC]
  split
  · rw [noResC_n h]
  · rw [thr_n h, noResC_n h]
theorem noGrp_f {cm : CM} {k i : Int32} (hb : Nb (cm 4 0 0) 40) (hg : ∀ a, a < nn (cm 4 0 0) → Nb (cm 34 0 a) 160) (h : noGrp cm k i = false) : ∃ a b, a < nn (cm 4 0 0) ∧ a < 40 ∧ k = nI a ∧ b < nn (cm 34 0 a) ∧ b < 160 ∧ i = nI b ∧ ¬ cm 33 0 a = 0 ∧ noGrpC cm k i = thr (thr (thr cm false 1) false 2) false 3 := by
  rw [noGrp, Bool.or_eq_false_iff] at h
  obtain ⟨a, h1, h2, rfl, h4, h5⟩ := noRes_f hb h.1
  have h6 := h.2
  obtain ⟨m, hm, e⟩ := hg a h1
  rw [nn_nI (by omega), Bool.not_eq_false'] at h6
  obtain ⟨b, hb, rfl⟩ := nb_inR (by omega) e h6
  refine ⟨a, b, h1, h2, rfl, by rw [e, nn_nI (by omega)]; exact hb, by omega, rfl, h4, ?_⟩
  rw [noGrpC, if_neg (by rw [h.1]; decide), h5, nn_nI (by omega), h6]
  rfl
/-- the order of a result names its groups -/
def GOk (cm : CM) : Prop := SOk cm ∧ ∀ a, a < nn (cm 4 0 0) → Nb (cm 34 0 a) 160 ∧ (¬ cm 33 0 a = 0 → ∀ b, b < nn (cm 34 0 a) → ∃ c, c < nn (cm 34 0 a) ∧ cm 51 a b = nI c)
theorem GOk.ord {cm : CM} (h : GOk cm) {a b : Nat} (ha : a < nn (cm 4 0 0)) (hd : ¬ cm 33 0 a = 0) (hb : b < nn (cm 34 0 a)) : ∃ c, c < 160 ∧ cm 51 a b = nI c := by
  obtain ⟨c, hc, e⟩ := (h.2 a ha).2 hd b hb
  obtain ⟨m, hm, e2⟩ := (h.2 a ha).1
  rw [e2, nn_nI (by omega)] at hc
  exact ⟨c, by omega, e⟩
def totM (cm : CM) (k i w : Int32) : Int32 × CM :=
  if noGrp cm k i then (0, noGrpC cm k i) else
  if inR w 0 2 then ((if w = 0 then cm 39 (nn k) (nn (cm 51 (nn k) (nn i))) else if w = 1 then cm 40 (nn k) (nn (cm 51 (nn k) (nn i))) else cm 41 (nn k) (nn (cm 51 (nn k) (nn i)))), thr (noGrpC cm k i) false 4)
  else (0, thr (noGrpC cm k i) true 4)
def edgM (cm : CM) (k i : Int32) (gr : Bool) : Int32 × CM :=
  if noGrp cm k i then (0, noGrpC cm k i) else
  if cm 40 (nn k) (nn (cm 51 (nn k) (nn i))) = 0 then (0, thr (noGrpC cm k i) true 4) else
  ((if gr then cm 43 (nn k) (nn (cm 51 (nn k) (nn i))) else cm 42 (nn k) (nn (cm 51 (nn k) (nn i)))), thr (noGrpC cm k i) false 4)
def keptB (cm : CM) (s : Nat) : Bool := decide (0 < cm 33 0 s) && (decide (cm 50 0 s = 0) && decide (cm 45 0 0 - cm 33 0 s < 3))
def keptF (cm : CM) (f k m : Int32) : Nat → Int32
  | 0 => -1
  | s + 1 => if keptB cm s = true ∧ cm 23 0 s = f ∧ cm 24 0 s = k ∧ cm 25 0 s = m then nI s else keptF cm f k m s
theorem keptF_lt (cm : CM) (f k m : Int32) : ∀ n, keptF cm f k m n = -1 ∨ ∃ s, s < n ∧ keptF cm f k m n = nI s
  | 0 => Or.inl rfl
  | n + 1 => by
    rw [keptF]
    split
    · exact Or.inr ⟨n, by omega, rfl⟩
    · rcases keptF_lt cm f k m n with h | ⟨s, hs, h⟩
      · exact Or.inl h
      · exact Or.inr ⟨s, by omega, h⟩

