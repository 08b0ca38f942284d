-- deps: 9n.simj
/-! taking back: both sides -/
def nz (h : Nat → Nat) : Nat := (if h 0 = 0 then 0 else 1) + (if h 1 = 0 then 0 else 1) + (if h 2 = 0 then 0 else 1) + (if h 3 = 0 then 0 else 1)
theorem nz_Z {h : Nat → Nat} {f : Nat} (hf : f < 4) (hp : 0 < h f) : nz (hZ h f) + 1 = nz h := by
  rcases (show f = 0 ∨ f = 1 ∨ f = 2 ∨ f = 3 by omega) with rfl | rfl | rfl | rfl <;> simp [nz, hZ, Nat.ne_of_gt hp] <;> omega
theorem nz_0 {h : Nat → Nat} (h0 : nz h = 0) : hS h = 0 := by
  rw [nz] at h0
  have a0 : h 0 = 0 := Classical.byContradiction fun q => by rw [if_neg q] at h0; omega
  have a1 : h 1 = 0 := Classical.byContradiction fun q => by rw [if_neg q] at h0; omega
  have a2 : h 2 = 0 := Classical.byContradiction fun q => by rw [if_neg q] at h0; omega
  have a3 : h 3 = 0 := Classical.byContradiction fun q => by rw [if_neg q] at h0; omega
  rw [hS, a0, a1, a2, a3]
theorem nz_4 (h : Nat → Nat) : nz h ≤ 4 := by
  rw [nz]
  split <;> split <;> split <;> split <;> omega
theorem tbC_stop {s : Nat} {l : Int32} {cm : CM} (h : ¬ l < inM cm s) : ∀ n, tbC s l n cm = cm
  | 0 => rfl
  | n + 1 => by rw [tbC, if_neg h]
theorem tb_eq {s l k : Nat} (hl : l < 100000) : ∀ d n m (cm : CM) (V : CV) (h : Nat → Nat), nz h ≤ d → d ≤ n → d ≤ m → PaC cm V s h → IsI cm s k → k ≤ nn (cm 34 0 s) → hS h ≤ 1000 →
    ∃ h', PaC (tbC s (nI l) n cm) (paU (400 + 20 * s + 6) (nI l) m V) s h' ∧ IsI (tbC s (nI l) n cm) s k ∧ hS h' ≤ l ∧ FrX s cm (tbC s (nI l) n cm) ∧ (∀ q, q ≠ 31 → q ≠ 35 → q ≠ 36 → q ≠ 44 → tbC s (nI l) n cm q = cm q) ∧ ∀ i, i ≠ 400 + 20 * s + 6 → i ≠ 400 + 20 * s + 7 → i ≠ 400 + 20 * s + 8 → paU (400 + 20 * s + 6) (nI l) m V i = V i := by
  intro d
  have stop : ∀ n m (cm : CM) (V : CV) (h : Nat → Nat), hS h ≤ l → PaC cm V s h → IsI cm s k → 
      ∃ h', PaC (tbC s (nI l) n cm) (paU (400 + 20 * s + 6) (nI l) m V) s h' ∧ IsI (tbC s (nI l) n cm) s k ∧ hS h' ≤ l ∧ FrX s cm (tbC s (nI l) n cm) ∧ (∀ q, q ≠ 31 → q ≠ 35 → q ≠ 36 → q ≠ 44 → tbC s (nI l) n cm q = cm q) ∧ ∀ i, i ≠ 400 + 20 * s + 6 → i ≠ 400 + 20 * s + 7 → i ≠ 400 + 20 * s + 8 → paU (400 + 20 * s + 6) (nI l) m V i = V i := by
    intro n m cm V h hle hP hI
    obtain ⟨t1, t2⟩ := hP.sum
    rw [tbC_stop (by rw [t2, nI_ltq (by omega) (by omega)]; omega), paU_stop (by rw [t1, nI_ltq (by omega) (by omega)]; omega)]
    exact ⟨h, hP, hI, hle, FrX.rfl, fun _ _ _ _ _ => rfl, fun _ _ _ _ => rfl⟩
  induction d with
  | zero =>
    intro n m cm V h hz hn hm hP hI hk hS9
    have := nz_0 (show nz h = 0 by omega)
    exact stop n m cm V h (by omega) hP hI
  | succ d ih =>
    intro n m cm V h hz hn hm hP hI hk hS9
    by_cases hle : hS h ≤ l
    · exact stop n m cm V h hle hP hI
    · obtain ⟨n, rfl⟩ : ∃ e, n = e + 1 := ⟨n - 1, by omega⟩
      obtain ⟨m, rfl⟩ : ∃ e, m = e + 1 := ⟨m - 1, by omega⟩
      obtain ⟨t1, t2⟩ := hP.sum
      obtain ⟨f, hf, hf0, f1, f2, hP2⟩ := hP.sp (by omega) (by omega)
      have e1 := nz_Z hf hf0
      have e2 := hS_Z (h := h) hf
      rw [tbC, if_pos (by rw [t2, nI_ltq (by omega) (by omega)]; omega), paU, if_pos (by rw [t1, nI_ltq (by omega) (by omega)]; omega), f2]
      obtain ⟨h', g1, g2, g3, g4, g5, g6⟩ := ih n m (spC cm s) (paS V (400 + 20 * s + 6) f) _ (by omega) (by omega) (by omega) hP2 (hI.sp hk) (by rw [spC_n (k := 34) (by decide) (by decide) (by decide) (by decide)]; exact hk) (by omega)
      refine ⟨h', g1, g2, g3, (sp_X FrX.rfl).trans g4, fun q q1 q2 q3 q4 => by rw [g5 q q1 q2 q3 q4, spC_n q1 q2 q3 q4], fun i i1 i2 i3 => by rw [g6 i i1 i2 i3, paS_n i1 i2 i3]⟩


