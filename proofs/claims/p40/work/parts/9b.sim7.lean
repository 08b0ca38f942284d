-- deps: 9a.sim6
/-! a scan takes a row: memory -/
def MmS (cm : CM) (V : CV) (s : Nat) (h : Nat → Nat) (y n : Nat) : Prop := PaC cm V s h ∧ IsI cm s n ∧ cm 26 0 s = nI y ∧ 1 ≤ y ∧ y ≤ 6 ∧ hS h ≤ 2 * y
theorem paP_mp {k : Int32} (h : vl k) : paP (mp k) = prt k := by
  rw [paP, prt]
  by_cases h5 : k = 5000
  · rw [if_pos h5, if_pos ((vl_mp h).1.mpr h5)]
  · rw [if_neg h5, if_neg fun q => h5 ((vl_mp h).1.mp q), (vl_mp h).2.1 h5]
theorem paU_stop {o : Nat} {m : Int32} {V : CV} (h : ¬ m < sumI (V (o + 1)) 4) : ∀ n, paU o m n V = V
  | 0 => rfl
  | n + 1 => by rw [paU, if_neg h]
/-- spills at most once -/
theorem mem_sp {cm : CM} {V : CV} {s : Nat} {h : Nat → Nat} {y n p : Nat} (H : MmS cm V s h y n) (hn : n ≤ nn (cm 34 0 s)) (hp : p < 4) (h44 : cm 44 s n = 0) :
    ∃ h', MmS (tkS cm s n p) (paK V (400 + 20 * s + 6) p true) s h' y n ∧ tkS cm s n p 44 s n = 0 ∧ (tkS cm s n p 35 0 (4 * s + p) = 0 → hS h' < 2 * y) := by
  obtain ⟨hP, hI, e26, hy1, hy6, hh⟩ := H
  obtain ⟨t1, t2⟩ := hP.sum
  have e8 := (hP.2.1 p hp).1
  have e2 : V (400 + 20 * s + 6) 2 = nI y := by rw [hP.2.2.1, e26]
  rw [tkS, paK, if_pos rfl, e8]
  by_cases h35 : cm 35 0 (4 * s + p) = 0
  · have em : 2 * nI y - 1 = nI (2 * y - 1) := by rw [nI_2m, show (1 : Int32) = nI 1 from rfl, nI_sub (by omega)]
    rw [if_pos h35, if_pos h44, if_pos h35, e26, t2, nI_2m, e2, em]
    by_cases hl : hS h < 2 * y
    · rw [if_pos ((nI_ltq (by omega) (by omega)).mpr hl), paU_stop (by rw [t1, nI_ltq (by omega) (by omega)]; omega)]
      exact ⟨h, ⟨hP, hI, e26, hy1, hy6, hh⟩, h44, fun _ => hl⟩
    · obtain ⟨f, hf, hf0, f1, f2, hP2⟩ := hP.sp (by omega) (by omega)
      have hz := hS_Z (h := h) hf
      have t3 := hP2.sum.1
      rw [if_neg (fun q => hl ((nI_ltq (by omega) (by omega)).mp q)), paU, if_pos (by rw [t1, nI_ltq (by omega) (by omega)]; omega), f2, paU_stop (by rw [t3, nI_ltq (by omega) (by omega)]; omega)]
      refine ⟨_, ⟨hP2, hI.sp hn, ?_, hy1, hy6, by omega⟩, ?_, fun _ => by omega⟩
      · rw [spC_n (by decide) (by decide) (by decide) (by decide), e26]
      · exact (hI.sp hn).2 n (Nat.le_refl _)
  · rw [if_neg h35, if_neg h35]
    exact ⟨h, ⟨hP, hI, e26, hy1, hy6, hh⟩, h44, fun q => absurd q h35⟩
def hP1 (h : Nat → Nat) (p q : Nat) : Nat := if q = p then h q + 1 else h q
theorem hS_P {h : Nat → Nat} {p : Nat} (hp : p < 4) : hS (hP1 h p) = hS h + 1 := by
  rcases (show p = 0 ∨ p = 1 ∨ p = 2 ∨ p = 3 by omega) with rfl | rfl | rfl | rfl <;> simp [hS, hP1] <;> omega
theorem PaC.aside {cm : CM} {V : CV} {s : Nat} {h : Nat → Nat} (H : PaC cm V s h) : PaC (c3 cm 32 0 s (cm 32 0 s + 1)) (c2 V (400 + 20 * s + 6) 4 (V (400 + 20 * s + 6) 4 + 1)) s h := by
  obtain ⟨h1, h2, h3, h4, h5⟩ := H
  rw [PaC, c3_n (by decide), c3_n (by decide), c3_n (by decide), c3_n (by decide), c3_s, upd_s, c2_n _ _ _ (by omega), c2_n _ _ _ (by omega), c2_s, upd_s, upd_n _ _ (by decide), upd_n _ _ (by decide), h5]
  exact ⟨h1, h2, h3, h4, rfl⟩
theorem mem_new {cm : CM} {V : CV} {s : Nat} {h : Nat → Nat} {y n p : Nat} (H : MmS cm V s h y n) (hp : p < 4) (h44 : cm 44 s n = 0) (hk : prt (cm 38 s n) = nI p) (hl : cm 35 0 (4 * s + p) = 0 → hS h < 2 * y) :
    ∃ h', MmS (tkM cm s n p) (paT V (400 + 20 * s + 6) p true) s h' y (n + 1) := by
  obtain ⟨hP, hI, e26, hy1, hy6, hh⟩ := H
  have e8 := (hP.2.1 p hp).1
  rw [tkM, paT, e8]
  by_cases h35 : cm 35 0 (4 * s + p) = 0
  · rw [if_pos h35, if_pos h44, if_pos h35, if_pos rfl]
    have hl := hl h35
    refine ⟨hP1 h p, ⟨?_, ?_, ?_, ?_, ?_⟩, ?_, ?_, hy1, hy6, by rw [hS_P hp]; omega⟩
    · intro q hq
      rw [c2_s, c3_s, c3_n (by decide), hP1]
      obtain ⟨a, b⟩ := hP.1 q hq
      by_cases e : q = p
      · subst e
        rw [upd_s, upd_s, if_pos rfl, a, b, show (1 : Int32) = nI 1 from rfl, nI_add]
        exact ⟨rfl, rfl⟩
      · rw [upd_n _ _ e, upd_n _ _ (by omega), if_neg e]
        exact ⟨a, b⟩
    · intro q hq
      rw [c2_n _ _ _ (by omega), c3_n (by decide), c3_n (by decide), hP1]
      obtain ⟨a, b, d⟩ := hP.2.1 q hq
      refine ⟨a, b, fun h9 => ?_⟩
      rw [if_neg fun e => h9 (by rw [e]; exact h35)]
      exact d h9
    · rw [c2_n _ _ _ (by omega), c3_n (by decide), c3_n (by decide)]; exact hP.2.2.1
    · rw [c2_n _ _ _ (by omega), c3_n (by decide), c3_n (by decide)]; exact hP.2.2.2.1
    · rw [c2_n _ _ _ (by omega), c3_n (by decide), c3_n (by decide)]; exact hP.2.2.2.2
    · constructor
      · intro g hg
        rw [c3_n (by decide), c3_s, c3_n (by decide), c3_n (by decide), c3_n (by decide), c3_n (by decide)]
        by_cases e : g = n
        · rw [e, upd_s, hk, nn_nI (by omega), if_pos h35]
        · rw [upd_n _ _ e, hI.1 g (by omega)]
      · intro g hg
        rw [c3_n (by decide), c3_s, upd_n _ _ (by omega), hI.2 g (by omega)]
    · rw [c3_n (by decide), c3_n (by decide)]; exact e26
  · rw [if_neg h35, if_neg h35]
    refine ⟨h, hP.aside, ?_, ?_, hy1, hy6, hh⟩
    · constructor
      · intro g hg
        rw [c3_n (by decide), c3_n (by decide), c3_n (by decide)]
        by_cases e : g = n
        · rw [e, h44, hk, nn_nI (by omega), if_neg h35]
        · exact hI.1 g (by omega)
      · intro g hg
        rw [c3_n (by decide)]
        exact hI.2 g (by omega)
    · rw [c3_n (by decide)]; exact e26
theorem mem_old {cm : CM} {V : CV} {s : Nat} {h : Nat → Nat} {y n p g : Nat} (H : MmS cm V s h y n) (hp : p < 4) (hg : g < n) (hk : prt (cm 38 s g) = nI p) :
    MmS (tkM (tkS cm s g p) s g p) (paT (paK V (400 + 20 * s + 6) p false) (400 + 20 * s + 6) p false) s h y n := by
  obtain ⟨hP, hI, e26, hy1, hy6, hh⟩ := H
  have e8 := (hP.2.1 p hp).1
  have e44 := hI.1 g hg
  rw [hk, nn_nI (by omega)] at e44
  have eS : tkS cm s g p = cm := by
    rw [tkS]
    by_cases h35 : cm 35 0 (4 * s + p) = 0
    · rw [if_pos h35] at e44
      rw [if_pos h35, if_neg (show ¬ cm 44 s g = 0 by rw [e44]; decide)]
    · rw [if_neg h35]
  rw [paK, if_neg (by decide), eS, tkM, paT, e8]
  by_cases h35 : cm 35 0 (4 * s + p) = 0
  · rw [if_pos h35] at e44
    rw [if_pos h35, if_neg (show ¬ cm 44 s g = 0 by rw [e44]; decide), if_pos h35, if_neg (by decide)]
    exact ⟨hP, hI, e26, hy1, hy6, hh⟩
  · rw [if_neg h35, if_neg h35]
    refine ⟨hP.aside, ?_, ?_, hy1, hy6, hh⟩
    · rw [IsI, c3_n (by decide), c3_n (by decide), c3_n (by decide)]
      exact hI
    · rw [c3_n (by decide)]; exact e26


