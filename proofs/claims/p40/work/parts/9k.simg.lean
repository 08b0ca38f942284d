-- deps: 9j.simf 40.mo19
/-! all scans -/
def ScG (cm : CM) (sh : Sh) (V : CV) (R M s Dn : Nat) : Prop := ∃ j ns ts x y, ScS cm sh V R s j ns ts ∧ ts ≤ M ∧ x < 2 ^ ((ns + 15) / 16) ∧ ScD cm V s x (pas x (fun r => aliveM cm r (nI ts)) ns) y ∧ DnS cm V s Dn ∧ (cm 33 0 s = 0 ↔ ¬ pc10 x = (ns + 15) / 16)
theorem GkS.oth {cm cm' : CM} {V W : CV} {s q n B : Nat} (H : GkS cm V q n B) (h : FrX s cm cm') (hs : q ≠ s) (h4 : W (400 + 20 * q + 4) = V (400 + 20 * q + 4)) (h5 : W (400 + 20 * q + 4 + 1) = V (400 + 20 * q + 4 + 1)) : GkS cm' W q n B := by
  have e : ∀ k, 38 ≤ k → k ≤ 43 → cm' k q = cm k q := fun k h1 h2 => funext fun j => h k q j (by rw [own]; omega)
  have e34 : cm' 34 0 q = cm 34 0 q := h 34 0 q (by rw [own]; omega)
  have er : rsF cm' q = rsF cm q := funext fun g => funext fun w => rsF_cg (by rw [e 38 (by omega) (by omega)]) (by rw [e 39 (by omega) (by omega)]) (by rw [e 40 (by omega) (by omega)]) (by rw [e 41 (by omega) (by omega)]) (by rw [e 42 (by omega) (by omega)]) (by rw [e 43 (by omega) (by omega)]) w
  rw [GkS, h4, h5, er, e34, e 38 (by omega) (by omega), e 39 (by omega) (by omega), e 40 (by omega) (by omega), e 41 (by omega) (by omega)]
  exact H
theorem MmS.oth {cm cm' : CM} {V W : CV} {s q y n : Nat} {h : Nat → Nat} (H : MmS cm V q h y n) (hx : FrX s cm cm') (hs : q ≠ s) (v6 : W (400 + 20 * q + 6) = V (400 + 20 * q + 6)) (v7 : W (400 + 20 * q + 6 + 1) = V (400 + 20 * q + 6 + 1)) (v8 : W (400 + 20 * q + 6 + 2) = V (400 + 20 * q + 6 + 2)) : MmS cm' W q h y n := by
  have e36 : ∀ p, p < 4 → cm' 36 0 (4 * q + p) = cm 36 0 (4 * q + p) := fun p hp => hx _ _ _ (by rw [own]; omega)
  have e35 : ∀ p, p < 4 → cm' 35 0 (4 * q + p) = cm 35 0 (4 * q + p) := fun p hp => hx _ _ _ (by rw [own]; omega)
  have e1 : ∀ k, k = 26 ∨ k = 31 ∨ k = 32 → cm' k 0 q = cm k 0 q := fun k hk => hx _ _ _ (by rw [own]; omega)
  have e2 : ∀ k g, k = 38 ∨ k = 44 → cm' k q g = cm k q g := fun k g hk => hx _ _ _ (by rw [own]; omega)
  obtain ⟨⟨p1, p2, p3, p4, p5⟩, ⟨i1, i2⟩, a1, a2⟩ := H
  refine ⟨⟨fun p hp => ?_, fun p hp => ?_, ?_, ?_, ?_⟩, ⟨fun g hg => ?_, fun g hg => ?_⟩, ?_, a2⟩
  · rw [v7, e36 p hp]; exact p1 p hp
  · rw [v8, e35 p hp]; exact p2 p hp
  · rw [v6, e1 26 (by omega)]; exact p3
  · rw [v6, e1 31 (by omega)]; exact p4
  · rw [v6, e1 32 (by omega)]; exact p5
  · obtain ⟨p, hp, ep⟩ := prt_lt (cm 38 q g)
    have := i1 g hg
    rw [ep, nn_nI (by omega)] at this
    rw [e2 44 g (by omega), e2 38 g (by omega), ep, nn_nI (by omega), e35 p hp]
    exact this
  · rw [e2 44 g (by omega)]; exact i2 g hg
  · rw [e1 26 (by omega)]; exact a1
theorem ScS.cg2 {cm cm' : CM} {sh : Sh} {V W : CV} {R s j ns ts : Nat} (H : ScS cm sh V R s j ns ts) (h : FrN cm cm') (hv : ∀ i, 400 + 20 * s ≤ i → i < 420 + 20 * s → W i = V i) : ScS cm' sh W R s j ns ts := by
  rw [ScS] at H ⊢
  rw [hv (400 + 20 * s) (by omega) (by omega), h 23 rfl, h 24 rfl, h 25 rfl, h 27 rfl, h 28 rfl]
  simp only [h.al]
  obtain ⟨a1, a2, a3, a4, a5, a6, a7, a8, a9, b1, b2, b3, b4, b5, b6, b7⟩ := H
  exact ⟨a1, a2, a3, a4, a5, a6, a7, a8, a9, b1, b2, b3, h.rw (b4.cg (hv _ (by omega) (by omega)) (hv _ (by omega) (by omega)) (hv _ (by omega) (by omega))), b5, b6, b7⟩
/-- another scan stays as it is -/
theorem ScG.oth {cm cm' : CM} {sh : Sh} {V W : CV} {R M s q Dn D' : Nat} (H : ScG cm sh V R M q Dn) (h : FrX s cm cm') (hs : q ≠ s) (hv : ∀ i, 400 + 20 * q ≤ i → i < 420 + 20 * q → W i = V i) (hD : Dn ≤ D') : ScG cm' sh W R M q D' := by
  obtain ⟨j, ns, ts, x, y, h1, h2, h3, ⟨⟨x1, x2, x3, x4, x5⟩, n, h4, g1, g2⟩, h5, h6⟩ := H
  have ho := hv (400 + 20 * q) (by omega) (by omega)
  have e : ∀ k, 29 ≤ k → k ≤ 34 → cm' k 0 q = cm k 0 q := fun k h1 h2 => h k 0 q (by rw [own]; omega)
  refine ⟨j, ns, ts, x, y, h1.cg2 h.N hv, h2, h3, ⟨⟨x1, ?_, fun k hk => ?_, ?_, ?_⟩, n, h4, ?_, ?_⟩, ?_, ?_⟩
  · rw [ho]; exact x2
  · rw [h 37 0 (10 * q + k) (by rw [own]; omega)]; exact x3 k hk
  · rw [e 29 (by omega) (by omega)]; exact x4
  · rw [ho, e 30 (by omega) (by omega)]; exact x5
  · simp only [h.N.al]
    exact g1.oth h hs (hv _ (by omega) (by omega)) (hv _ (by omega) (by omega))
  · exact g2.oth h hs (hv _ (by omega) (by omega)) (hv _ (by omega) (by omega)) (hv _ (by omega) (by omega))
  · rcases h5 with ⟨a, b⟩ | ⟨d, m, a, a9, b, c, e5, f⟩
    · exact .inl ⟨by rw [e 33 (by omega) (by omega)]; exact a, by rw [ho]; exact b⟩
    · refine .inr ⟨d, m, by omega, a9, by rw [ho]; exact b, by rw [e 33 (by omega) (by omega)]; exact c, by rw [e 34 (by omega) (by omega)]; exact e5, ?_⟩
      have e38 : cm' 38 q = cm 38 q := funext fun j => h 38 q j (by rw [own]; omega)
      have e51 : cm' 51 q = cm 51 q := funext fun j => h 51 q j (by rw [own]; omega)
      rw [OrS, e38, e51]
      exact f
  · rw [e 33 (by omega) (by omega)]; exact h6
/-- which scans look at the chunk -/
theorem step_B {cm : CM} {sh : Sh} {V : CV} {R M s P Dn : Nat} (H : ScG cm sh V R M s Dn) (hR : R ≤ 160) (hD : Dn < 1000) (e5 : cm 5 0 0 = nI P) (hP : P < 10) : rdB cm s = scT V (400 + 20 * s) P := by
  obtain ⟨j, ns, ts, x, y, h1, h2, h3, ⟨⟨x1, x2, x3, x4, x5⟩, n, h4, g1, g2⟩, h5, h6⟩ := H
  obtain ⟨-, -, -, -, -, -, -, -, -, v4, e28, hns, -⟩ := h1
  have hu := ou_x (x := x) (k := P) x1 hP
  rw [ouB] at hu
  rw [rdB, scT, e5, nn_nI (by omega), e28, v4, x2, hu, x3 P hP]
  have et : decide ((if x.testBit P = true then (1 : Int32) else 0) = 0) = !x.testBit P := by cases x.testBit P <;> decide
  rw [et]
  by_cases hd : cm 33 0 s = 0
  · rw [decide_eq_true hd, Bool.true_and]
  · rw [decide_eq_false hd, Bool.false_and]
    have hp : pc10 x = (ns + 15) / 16 := Classical.byContradiction fun q => hd (h6.mpr q)
    by_cases hlt : P < (ns + 15) / 16
    · rw [pc_all h3 (by omega) hp hlt, Bool.not_true, Bool.and_false]
    · rw [decide_eq_false fun q => hlt ((nI_ltq (by omega) (by omega)).mp q), Bool.false_and]


