-- deps: 9b.sim7
/-! a scan takes a row -/
def rsF (cm : CM) (s g w : Nat) : Int32 :=
  if w = 0 then mp (cm 38 s g) else if w = 1 then cm 39 s g else if w = 2 then cm 40 s g else if w = 3 then cm 41 s g else if w = 4 then (if cm 40 s g = 0 then 999 else cm 42 s g) else (if cm 40 s g = 0 then -999 else cm 43 s g)
theorem rsF_cg {cm cm' : CM} {s g : Nat} (h38 : cm' 38 s g = cm 38 s g) (h39 : cm' 39 s g = cm 39 s g) (h40 : cm' 40 s g = cm 40 s g) (h41 : cm' 41 s g = cm 41 s g) (h42 : cm' 42 s g = cm 42 s g) (h43 : cm' 43 s g = cm 43 s g) (w : Nat) : rsF cm' s g w = rsF cm s g w := by
  rw [rsF, rsF, h38, h39, h40, h41, h42, h43]
theorem tkV_nq {cm : CM} {s g k : Nat} {v : Int32} (h1 : k ≠ 39) (h2 : k ≠ 40) (h3 : k ≠ 41) (h4 : k ≠ 42) (h5 : k ≠ 43) : tkV cm s g v k = cm k := by
  rw [tkV]
  split
  · rw [c3_n h1]
  · rw [c3_n h3, c3_n h2, c3_n h5, c3_n h4, c3_n h1]
theorem tkV_39 {cm : CM} {s g : Nat} {v : Int32} : tkV cm s g v 39 s = upd (cm 39 s) g (cm 39 s g + 1) := by
  rw [tkV]
  split
  · rw [c3_s]
  · rw [c3_n (by decide), c3_n (by decide), c3_n (by decide), c3_n (by decide), c3_s]
theorem tkV_x {cm : CM} {s g : Nat} {v : Int32} (hv : ¬ v = 5000) : tkV cm s g v 40 s = upd (cm 40 s) g (cm 40 s g + 1) ∧ tkV cm s g v 41 s = upd (cm 41 s) g (cm 41 s g + v) ∧ tkV cm s g v 42 s = upd (cm 42 s) g (if cm 40 s g = 0 then v else imin (cm 42 s g) v) ∧ tkV cm s g v 43 s = upd (cm 43 s) g (if cm 40 s g = 0 then v else imax (cm 43 s g) v) := by
  rw [tkV, if_neg hv]
  refine ⟨?_, ?_, ?_, ?_⟩
  · rw [c3_n (by decide), c3_s, c3_n (by decide), c3_n (by decide), c3_n (by decide)]
  · rw [c3_s, c3_n (by decide), c3_n (by decide), c3_n (by decide), c3_n (by decide)]
  · rw [c3_n (by decide), c3_n (by decide), c3_n (by decide), c3_s, c3_n (by decide)]
  · rw [c3_n (by decide), c3_n (by decide), c3_s, c3_n (by decide), c3_n (by decide)]
theorem tkV_o {cm : CM} {s g j h : Nat} {v : Int32} (hh : h ≠ g) : tkV cm s g v j s h = cm j s h := by
  by_cases hv : v = 5000
  · rw [tkV, if_pos hv]
    by_cases e : j = 39
    · rw [e, c3_s, upd_n _ _ hh]
    · rw [c3_n e]
  · obtain ⟨a, b, c, d⟩ := tkV_x (cm := cm) (s := s) (g := g) hv
    by_cases e0 : j = 39
    · rw [e0, tkV_39, upd_n _ _ hh]
    · by_cases e1 : j = 40
      · rw [e1, a, upd_n _ _ hh]
      · by_cases e2 : j = 41
        · rw [e2, b, upd_n _ _ hh]
        · by_cases e3 : j = 42
          · rw [e3, c, upd_n _ _ hh]
          · by_cases e4 : j = 43
            · rw [e4, d, upd_n _ _ hh]
            · rw [tkV_nq e0 e1 e2 e3 e4]
theorem tkV_40 {cm : CM} {s g a : Nat} {v : Int32} (h40 : cm 40 s g = nI a) : ∃ b, b ≤ a + 1 ∧ tkV cm s g v 40 s g = nI b := by
  by_cases hv : v = 5000
  · refine ⟨a, by omega, ?_⟩
    rw [tkV, if_pos hv, c3_n (by decide), h40]
  · refine ⟨a + 1, Nat.le_refl _, ?_⟩
    rw [(tkV_x hv).1, upd_s, h40, show (1 : Int32) = nI 1 from rfl, nI_add]
theorem tkV_rs {cm : CM} {s g a : Nat} {v : Int32} (hv : vl v) (h40 : cm 40 s g = nI a) (ha : a < 100000) (w : Nat) (hw : w < 6) : rsF (tkV cm s g v) s g w = gA (mp v) (rsF cm s g) w := by
  have e38 : tkV cm s g v 38 = cm 38 := tkV_nq (by decide) (by decide) (by decide) (by decide) (by decide)
  have e39 := congrFun (tkV_39 (cm := cm) (s := s) (g := g) (v := v)) g
  rw [upd_s] at e39
  by_cases h5 : v = 5000
  · have e : ∀ j, j ≠ 39 → tkV cm s g v j = cm j := fun j hj => by rw [tkV, if_pos h5, c3_n hj]
    have hm : mp v = -1000 := (vl_mp hv).1.mpr h5
    rw [gA, hm]
    by_cases h1 : w = 1
    · rw [if_pos h1, rsF, rsF, h1, if_neg (by decide), if_pos rfl, if_neg (by decide), if_pos rfl, e39]
    · rw [if_neg h1, if_pos rfl, rsF, rsF, if_neg h1, if_neg h1, e 38 (by decide), e 40 (by decide), e 41 (by decide), e 42 (by decide), e 43 (by decide)]
  · obtain ⟨x40, x41, x42, x43⟩ := tkV_x (cm := cm) (s := s) (g := g) h5
    have hm : ¬ mp v = -1000 := fun q => h5 ((vl_mp hv).1.mp q)
    have x40 := congrFun x40 g
    have x41 := congrFun x41 g
    have x42 := congrFun x42 g
    have x43 := congrFun x43 g
    rw [upd_s] at x40 x41 x42 x43
    have hne : ¬ cm 40 s g + 1 = 0 := by
      rw [h40, show (1 : Int32) = nI 1 from rfl, nI_add, show (0 : Int32) = nI 0 from rfl, nI_eqq (by omega) (by omega)]
      omega
    have hr := hv.resolve_left h5
    have t9 : (999 : Int32).toInt = 999 := by decide
    have t8 : (-999 : Int32).toInt = -999 := by decide
    have m1 : imin 999 v = v := by
      rw [imin]
      split
      · rfl
      · rw [i32_nlt, i32_le] at *
        rw [i32_eq]; omega
    have m2 : imax (-999) v = v := by
      rw [imax]
      split
      · rfl
      · rw [i32_nlt, i32_le] at *
        rw [i32_eq]; omega
    rw [gA, if_neg hm, (vl_mp hv).2.1 h5]
    rcases (show w = 0 ∨ w = 1 ∨ w = 2 ∨ w = 3 ∨ w = 4 ∨ w = 5 by omega) with rfl | rfl | rfl | rfl | rfl | rfl
    · simp [rsF, e38]
    · simp [rsF, e39]
    · simp [rsF, x40]
    · simp [rsF, x41]
    · simp only [rsF, x40, x42, if_neg hne]
      by_cases h0 : cm 40 s g = 0 <;> simp [h0, m1]
    · simp only [rsF, x40, x43, if_neg hne]
      by_cases h0 : cm 40 s g = 0 <;> simp [h0, m2]
def GkS (cm : CM) (V : CV) (s n B : Nat) : Prop := KrS (cm 38 s) (V (400 + 20 * s + 4 + 1)) (rsF cm s) n ∧ cm 34 0 s = nI n ∧ V (400 + 20 * s + 4) 1 = nI n ∧ n ≤ B ∧ (∀ g, g < n → ∃ a, a ≤ B ∧ cm 40 s g = nI a) ∧ ∀ g, n ≤ g → cm 39 s g = 0 ∧ cm 40 s g = 0 ∧ cm 41 s g = 0
theorem GkS.has {cm : CM} {V : CV} {s n B : Nat} (H : GkS cm V s n B) (hB : B < 1000) {k : Int32} (hk : vl k) : gpX V (400 + 20 * s + 4) (mp k) = atF (cm 38 s) k n ∧ (gHas V (400 + 20 * s + 4) (mp k) = true ↔ ∃ g, g < n ∧ cm 38 s g = k) := by
  obtain ⟨h1, h2, h3, h4, -, -⟩ := H
  have e : gpX V (400 + 20 * s + 4) (mp k) = atF (cm 38 s) k n := by
    rw [gpX, h3, nn_nI (by omega)]
    exact h1.ky.gpl hk
  refine ⟨e, ?_⟩
  rw [gHas, e, h3, nn_nI (by omega), Bool.and_eq_true, decide_eq_true_eq, decide_eq_true_eq]
  exact h1.ky.has hk
theorem GkS.grN {cm : CM} {V : CV} {s n B : Nat} (H : GkS cm V s n B) (hB : B < 1000) {k : Int32} : (∀ g, g < n → cm 38 s g = k → grN cm s k = g) ∧ ((∀ g, g < n → ¬ cm 38 s g = k) → grN cm s k = n) := by
  obtain ⟨h1, h2, h3, h4, -, -⟩ := H
  rw [Jvm.Pilot.CGranaryPartitionLaw_law_r4763_445190.grN, h2, nn_nI (by omega)]
  refine ⟨fun g hg e => gix_eq e n 0 (by omega) (by omega) fun j _ hj q => ?_, fun h => ?_⟩
  · have := h1.2.1 j g (by omega) hg (by rw [q, e])
    omega
  · rw [gix_ge n 0 fun j _ hj => h j (by omega)]
    omega


