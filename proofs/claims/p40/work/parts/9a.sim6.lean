-- deps: 98.sim5 37.mo16 39.mo18 53.parts 61.scan 75.gpc
/-! the memory of a scan -/
def PaC (cm : CM) (V : CV) (s : Nat) (h : Nat → Nat) : Prop :=
  (∀ p, p < 4 → V (400 + 20 * s + 6 + 1) p = nI (h p) ∧ cm 36 0 (4 * s + p) = nI (h p)) ∧
  (∀ p, p < 4 → V (400 + 20 * s + 6 + 2) p = cm 35 0 (4 * s + p) ∧ b01 (cm 35 0 (4 * s + p)) ∧ (¬ cm 35 0 (4 * s + p) = 0 → h p = 0)) ∧
  V (400 + 20 * s + 6) 2 = cm 26 0 s ∧ V (400 + 20 * s + 6) 3 = cm 31 0 s ∧ V (400 + 20 * s + 6) 4 = cm 32 0 s
def hS (h : Nat → Nat) : Nat := h 0 + h 1 + h 2 + h 3
theorem fuM_cg {v w : Nat → Int32} : ∀ n, (∀ p, p ≤ n → w p = v p) → fuM w n = fuM v n
  | 0, _ => rfl
  | n + 1, h => by
    rw [fuM, fuM, fuM_cg n fun p hp => h p (by omega), h (n + 1) (by omega), h (fuM v n) (by have := fuM_le v n; omega)]
theorem fuM_max {v : Nat → Int32} {h : Nat → Nat} : ∀ n, (∀ p, p ≤ n → v p = nI (h p) ∧ h p ≤ 100000) → ∀ p, p ≤ n → h p ≤ h (fuM v n)
  | 0, _, p, hp => by
    rw [show p = 0 by omega, fuM]
    exact Nat.le_refl _
  | n + 1, H, p, hp => by
    have ih := fuM_max n fun p hp => H p (by omega)
    have hf := fuM_le v n
    rw [fuM, (H (n + 1) (by omega)).1, (H (fuM v n) (by omega)).1]
    have a := (H (n + 1) (by omega)).2
    have b := (H (fuM v n) (by omega)).2
    by_cases q : h (fuM v n) < h (n + 1)
    · rw [if_pos ((nI_ltq (by omega) (by omega)).mpr q)]
      by_cases e : p = n + 1
      · rw [e]; exact Nat.le_refl _
      · have := ih p (by omega); omega
    · rw [if_neg fun x => q ((nI_ltq (by omega) (by omega)).mp x)]
      by_cases e : p = n + 1
      · rw [e]; omega
      · exact ih p (by omega)
def hZ (h : Nat → Nat) (f p : Nat) : Nat := if p = f then 0 else h p
theorem hS_Z {h : Nat → Nat} {f : Nat} (hf : f < 4) : hS (hZ h f) + h f = hS h := by
  rcases (show f = 0 ∨ f = 1 ∨ f = 2 ∨ f = 3 by omega) with rfl | rfl | rfl | rfl <;> simp [hS, hZ] <;> omega
theorem hS_le {h : Nat → Nat} {p : Nat} (hp : p < 4) : h p ≤ hS h := by
  rcases (show p = 0 ∨ p = 1 ∨ p = 2 ∨ p = 3 by omega) with rfl | rfl | rfl | rfl <;> simp only [hS] <;> omega
theorem PaC.sum {cm : CM} {V : CV} {s : Nat} {h : Nat → Nat} (H : PaC cm V s h) : sumI (V (400 + 20 * s + 6 + 1)) 4 = nI (hS h) ∧ inM cm s = nI (hS h) := by
  obtain ⟨h1, -⟩ := H
  have a0 := h1 0 (by omega)
  have a1 := h1 1 (by omega)
  have a2 := h1 2 (by omega)
  have a3 := h1 3 (by omega)
  constructor
  · simp only [sumI]
    rw [a0.1, a1.1, a2.1, a3.1, show (0 : Int32) = nI 0 from rfl, nI_add, nI_add, nI_add, nI_add, hS, Nat.zero_add]
  · have a9 : cm 36 0 (4 * s) = nI (h 0) := a0.2
    rw [inM, a9, a1.2, a2.2, a3.2, nI_add, nI_add, nI_add, hS]
/-- the part with the most groups goes -/
theorem PaC.sp {cm : CM} {V : CV} {s : Nat} {h : Nat → Nat} (H : PaC cm V s h) (hb : hS h ≤ 100000) (hp : 0 < hS h) :
    ∃ f, f < 4 ∧ 0 < h f ∧ fuM (pv cm s) 3 = f ∧ fuM (V (400 + 20 * s + 6 + 1)) 3 = f ∧ PaC (spC cm s) (paS V (400 + 20 * s + 6) f) s (hZ h f) := by
  obtain ⟨h1, h2, h3, h4, h5⟩ := H
  have hle := fun p hp => hS_le (h := h) (p := p) hp
  have hf : fuM (V (400 + 20 * s + 6 + 1)) 3 = fuM (pv cm s) 3 := fuM_cg 3 fun p hp => by rw [pv, (h1 p (by omega)).1, (h1 p (by omega)).2]
  have hmx := fuM_max (v := pv cm s) (h := h) 3 fun p hp => ⟨(h1 p (by omega)).2, by have := hle p (by omega); omega⟩
  have hf4 := fuM_le (pv cm s) 3
  generalize ef : fuM (pv cm s) 3 = f at hf hmx hf4
  have hpos : 0 < h f := by
    have a0 := hmx 0 (by omega)
    have a1 := hmx 1 (by omega)
    have a2 := hmx 2 (by omega)
    have a3 := hmx 3 (by omega)
    rw [hS] at hp
    omega
  refine ⟨f, by omega, hpos, rfl, hf, ?_⟩
  have e35 : cm 35 0 (4 * s + f) = 0 := Classical.byContradiction fun h9 => by have := (h2 f (by omega)).2.2 h9; omega
  have e8 : V (400 + 20 * s + 6 + 2) f = 0 := by rw [(h2 f (by omega)).1, e35]
  have s31 : spC cm s 31 = spA cm s f 31 := by rw [spC, ef, rowU_n (by decide)]
  have s35 : spC cm s 35 = spA cm s f 35 := by rw [spC, ef, rowU_n (by decide)]
  have s36 : spC cm s 36 = spA cm s f 36 := by rw [spC, ef, rowU_n (by decide)]
  rw [paS, if_pos e8]
  refine ⟨fun p hp => ?_, fun p hp => ?_, ?_, ?_, ?_⟩
  · rw [s36, spA, c3_n (by decide), c3_s, c3_n (by decide), c2_n _ _ _ (by omega), c2_s, c2_n _ _ _ (by omega), hZ]
    by_cases e : p = f
    · subst e
      rw [upd_s, upd_s, if_pos rfl]
      exact ⟨rfl, rfl⟩
    · rw [upd_n _ _ e, upd_n _ _ (by omega), if_neg e]
      exact h1 p hp
  · rw [s35, spA, c3_n (by decide), c3_n (by decide), c3_s, c2_n _ _ _ (by omega), c2_n _ _ _ (by omega), c2_s, hZ]
    by_cases e : p = f
    · subst e
      rw [upd_s, upd_s, if_pos rfl]
      exact ⟨rfl, .inr rfl, fun _ => rfl⟩
    · rw [upd_n _ _ e, upd_n _ _ (by omega), if_neg e]
      exact h2 p hp
  · rw [c2_s, upd_n _ _ (by decide), c2_n _ _ _ (by omega), c2_n _ _ _ (by omega), h3, spC_n (by decide) (by decide) (by decide) (by decide)]
  · rw [c2_s, upd_s, s31, spA, c3_s, upd_s, h4]
  · rw [c2_s, upd_n _ _ (by decide), c2_n _ _ _ (by omega), c2_n _ _ _ (by omega), h5, spC_n (by decide) (by decide) (by decide) (by decide)]
/-! which groups are in it -/
def IsI (cm : CM) (s n : Nat) : Prop := (∀ g, g < n → cm 44 s g = if cm 35 0 (4 * s + nn (prt (cm 38 s g))) = 0 then 1 else 0) ∧ ∀ g, n ≤ g → cm 44 s g = 0
theorem IsI.sp {cm : CM} {s n : Nat} (H : IsI cm s n) (hn : n ≤ nn (cm 34 0 s)) : IsI (spC cm s) s n := by
  obtain ⟨h1, h2⟩ := H
  have hf := fuM_le (pv cm s) 3
  have e35 : spC cm s 35 = spA cm s (fuM (pv cm s) 3) 35 := by rw [spC, rowU_n (by decide)]
  have e44 : spA cm s (fuM (pv cm s) 3) 44 = cm 44 := by rw [spA, c3_n (by decide), c3_n (by decide), c3_n (by decide)]
  have z0 : ∀ x : Int32, (0 : Int32) &&& x = 0 := fun x => Int32.zero_and
  constructor
  · intro g hg
    have h1 := h1 g hg
    obtain ⟨p, hp, ep⟩ := prt_lt (cm 38 s g)
    rw [e35, spC_n (k := 38) (by decide) (by decide) (by decide) (by decide), ep, nn_nI (by omega), spA, c3_n (by decide), c3_n (by decide), c3_s]
    rw [ep, nn_nI (by omega)] at h1
    by_cases hm : g < nn (cm 34 0 s)
    · rw [spC, rowU_lt hm, spI, h1, ep]
      by_cases e : p = fuM (pv cm s) 3
      · rw [← e, upd_s, if_pos rfl, if_neg (show ¬ (1 : Int32) = 0 by decide)]
        split <;> rfl
      · rw [upd_n _ _ (by omega), if_neg fun q => e (nI_i q (by omega) (by omega))]
        split <;> rfl
    · omega
  · intro g hg
    by_cases hm : g < nn (cm 34 0 s)
    · rw [spC, rowU_lt hm, spI, h2 g hg, z0]
    · rw [spC, rowU_ge (by omega), e44, h2 g hg]


