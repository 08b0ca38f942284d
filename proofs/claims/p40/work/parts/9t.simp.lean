-- deps: 9s.simo
/-! what a scan has, stays as it is, whatever else changes -/
def scn (s k i j : Nat) : Prop := ((23 ≤ k ∧ k ≤ 34) ∧ i = 0 ∧ j = s) ∨ ((k = 35 ∨ k = 36) ∧ i = 0 ∧ j / 4 = s) ∨ (k = 37 ∧ i = 0 ∧ j / 10 = s) ∨ (((38 ≤ k ∧ k ≤ 44) ∨ k = 51) ∧ i = s)
def ScE (s : Nat) (cm cm' : CM) : Prop := ∀ k i j, scn s k i j → cm' k i j = cm k i j
def TmE (cm cm' : CM) (R M : Nat) : Prop := ∀ r t, r < R → t ≤ M → (∀ c, c < 4 → lk cm' r c (nI t) = lk cm r c (nI t)) ∧ aliveM cm' r (nI t) = aliveM cm r (nI t)
theorem TmE.rfl {cm : CM} {R M : Nat} : TmE cm cm R M := fun _ _ _ _ => ⟨fun _ _ => Eq.refl _, Eq.refl _⟩
theorem TmE.trans {a b c : CM} {R M : Nat} (h : TmE a b R M) (h2 : TmE b c R M) : TmE a c R M := fun r t hr ht => ⟨fun k hk => ((h2 r t hr ht).1 k hk).trans ((h r t hr ht).1 k hk), (h2 r t hr ht).2.trans (h r t hr ht).2⟩
theorem TmE.of {cm cm' : CM} {R M : Nat} (h : ∀ k, k = 2 ∨ k = 6 ∨ (8 ≤ k ∧ k ≤ 13) → cm' k = cm k) : TmE cm cm' R M := by
  intro r t _ _
  refine ⟨fun c _ => ?_, ?_⟩
  · rw [lk, lk, h 2 (by omega)]
    exact lkup_cg (by rw [h 6 (by omega)]) _ fun k _ => ⟨by rw [h 10 (by omega)], by rw [h 11 (by omega)], by rw [h 12 (by omega)], by rw [h 13 (by omega)]⟩
  · rw [aliveM, aliveM, h 8 (by omega), h 9 (by omega)]
theorem GkS.sce {cm cm' : CM} {V W : CV} {s n B : Nat} (H : GkS cm V s n B) (h : ScE s cm cm') (h4 : W (400 + 20 * s + 4) = V (400 + 20 * s + 4)) (h5 : W (400 + 20 * s + 4 + 1) = V (400 + 20 * s + 4 + 1)) : GkS cm' W s n B := by
  have e : ∀ k, 38 ≤ k → k ≤ 43 → cm' k s = cm k s := fun k h1 h2 => funext fun j => h k s j (by rw [scn]; omega)
  have e34 : cm' 34 0 s = cm 34 0 s := h 34 0 s (by rw [scn]; omega)
  have er : rsF cm' s = rsF cm s := funext fun g => funext fun w => rsF_cg (by rw [e 38 (by omega) (by omega)]) (by rw [e 39 (by omega) (by omega)]) (by rw [e 40 (by omega) (by omega)]) (by rw [e 41 (by omega) (by omega)]) (by rw [e 42 (by omega) (by omega)]) (by rw [e 43 (by omega) (by omega)]) w
  rw [GkS, h4, h5, er, e34, e 38 (by omega) (by omega), e 39 (by omega) (by omega), e 40 (by omega) (by omega), e 41 (by omega) (by omega)]
  exact H
theorem MmS.sce {cm cm' : CM} {V W : CV} {s y n : Nat} {h : Nat → Nat} (H : MmS cm V s h y n) (hx : ScE s cm cm') (v6 : W (400 + 20 * s + 6) = V (400 + 20 * s + 6)) (v7 : W (400 + 20 * s + 6 + 1) = V (400 + 20 * s + 6 + 1)) (v8 : W (400 + 20 * s + 6 + 2) = V (400 + 20 * s + 6 + 2)) : MmS cm' W s h y n := by
  have e36 : ∀ p, p < 4 → cm' 36 0 (4 * s + p) = cm 36 0 (4 * s + p) := fun p hp => hx _ _ _ (by rw [scn]; omega)
  have e35 : ∀ p, p < 4 → cm' 35 0 (4 * s + p) = cm 35 0 (4 * s + p) := fun p hp => hx _ _ _ (by rw [scn]; omega)
  have e1 : ∀ k, k = 26 ∨ k = 31 ∨ k = 32 → cm' k 0 s = cm k 0 s := fun k hk => hx _ _ _ (by rw [scn]; omega)
  have e2 : ∀ k g, k = 38 ∨ k = 44 → cm' k s g = cm k s g := fun k g hk => hx _ _ _ (by rw [scn]; omega)
  obtain ⟨⟨p1, p2, p3, p4, p5⟩, ⟨i1, i2⟩, a1, a2⟩ := H
  refine ⟨⟨fun p hp => ?_, fun p hp => ?_, ?_, ?_, ?_⟩, ⟨fun g hg => ?_, fun g hg => ?_⟩, ?_, a2⟩
  · rw [v7, e36 p hp]; exact p1 p hp
  · rw [v8, e35 p hp]; exact p2 p hp
  · rw [v6, e1 26 (by omega)]; exact p3
  · rw [v6, e1 31 (by omega)]; exact p4
  · rw [v6, e1 32 (by omega)]; exact p5
  · obtain ⟨p, hp, ep⟩ := prt_lt (cm 38 s g)
    have := i1 g hg
    rw [ep, nn_nI (by omega)] at this
    rw [e2 44 g (by omega), e2 38 g (by omega), ep, nn_nI (by omega), e35 p hp]
    exact this
  · rw [e2 44 g (by omega)]; exact i2 g hg
  · rw [e1 26 (by omega)]; exact a1
theorem RwS.ce {cm cm' : CM} {sh sh' : Sh} {V W : CV} {o n R M t : Nat} (H : RwS cm sh V o n (nI t)) (h : TmE cm cm' R M) (hn : n ≤ R) (ht : t ≤ M) (e0 : W o = V o) (e1 : W (o + 1) = V (o + 1)) (e2 : W (o + 2) = V (o + 2)) (n1 : sh'.N (o + 1) = sh.N (o + 1)) (n2 : sh'.N (o + 2) = sh.N (o + 2)) : RwS cm' sh' W o n (nI t) := by
  obtain ⟨h1, h2, h3, h4, h5, h6, h7⟩ := H
  rw [RwS, e0, e1, e2, n1, n2]
  exact ⟨h1, h2, h3, h4, fun r c hr hc => by rw [(h r t (by omega) ht).1 c hc]; exact h5 r c hr hc, fun r hr => by rw [(h r t (by omega) ht).2]; exact h6 r hr, h7⟩
theorem ScG.sce {cm cm' : CM} {sh sh' : Sh} {V W : CV} {R R' M M' s Dn D' : Nat} (H : ScG cm sh V R M s Dn) (h : ScE s cm cm') (hT : TmE cm cm' R M) (hR : R ≤ R') (hM : M ≤ M') (hd : ∀ r t, R ≤ r → r < R' → t ≤ M → aliveM cm' r (nI t) = false)
    (hv : ∀ i, 400 + 20 * s ≤ i → i < 420 + 20 * s → W i = V i) (hF : sh.F ≤ sh'.F) (hN : ∀ i, 400 + 20 * s ≤ i → i < 420 + 20 * s → sh'.N i = sh.N i) (hD : Dn ≤ D') : ScG cm' sh' W R' M' s D' := by
  obtain ⟨j, ns, ts, x, y, ⟨a1, a2, a3, a4, a5, a6, a7, a8, a9, b1, b2, b3, b4, b5, b6, b7⟩, h2, h3, ⟨⟨x1, x2, x3, x4, x5⟩, n, h4, g1, g2⟩, h5, h6⟩ := H
  have ho := hv (400 + 20 * s) (by omega) (by omega)
  have e : ∀ k, 23 ≤ k → k ≤ 34 → cm' k 0 s = cm k 0 s := fun k h1 h2 => h k 0 s (by rw [scn]; omega)
  have ha : ∀ n, n ≤ ns → pas x (fun r => aliveM cm' r (nI ts)) n = pas x (fun r => aliveM cm r (nI ts)) n := fun n hn => cntN_cg n fun r hr => by show (_ && aliveM cm' r (nI ts)) = _; rw [(hT r ts (by omega) h2).2]
  refine ⟨j, ns, ts, x, y, ⟨by omega, ?_, ?_, ?_, ?_, ?_, ?_, ?_, ?_, ?_, ?_, by omega, ?_, fun r h1 h2' => ?_, ?_, ?_⟩, by omega, h3, ⟨⟨x1, ?_, fun k hk => ?_, ?_, ?_⟩, n, h4, ?_, ?_⟩, ?_, ?_⟩
  · rw [ho]; exact a2
  · rw [e 23 (by omega) (by omega)]; exact a3
  · rw [ho, e 24 (by omega) (by omega)]; exact a4
  · rw [e 24 (by omega) (by omega)]; exact a5
  · rw [ho, e 25 (by omega) (by omega)]; exact a6
  · rw [e 25 (by omega) (by omega)]; exact a7
  · rw [ho]; exact a8
  · rw [e 27 (by omega) (by omega)]; exact a9
  · rw [ho]; exact b1
  · rw [e 28 (by omega) (by omega)]; exact b2
  · exact b4.ce hT b3 h2 (hv _ (by omega) (by omega)) (hv _ (by omega) (by omega)) (hv _ (by omega) (by omega)) (hN _ (by omega) (by omega)) (hN _ (by omega) (by omega))
  · by_cases hr : r < R
    · rw [(hT r ts hr h2).2]; exact b5 r h1 hr
    · exact hd r ts (by omega) h2' h2
  · rw [hN _ (by omega) (by omega), b6]
    congr 1
    exact cntN_cg ns fun r hr => by rw [(hT r ts (by omega) h2).2]
  · rw [PaOk, hN _ (by omega) (by omega), hN _ (by omega) (by omega)]; exact b7
  · rw [ho]; exact x2
  · rw [h 37 0 (10 * s + k) (by rw [scn]; omega)]; exact x3 k hk
  · rw [e 29 (by omega) (by omega)]; exact x4
  · rw [ho, e 30 (by omega) (by omega)]; exact x5
  · rw [ha ns (Nat.le_refl _)]
    exact g1.sce h (hv _ (by omega) (by omega)) (hv _ (by omega) (by omega))
  · exact g2.sce h (hv _ (by omega) (by omega)) (hv _ (by omega) (by omega)) (hv _ (by omega) (by omega))
  · rcases h5 with ⟨a, b⟩ | ⟨d, m, a, a9, b, c, e5, f⟩
    · exact .inl ⟨by rw [e 33 (by omega) (by omega)]; exact a, by rw [ho]; exact b⟩
    · refine .inr ⟨d, m, by omega, a9, by rw [ho]; exact b, by rw [e 33 (by omega) (by omega)]; exact c, by rw [e 34 (by omega) (by omega)]; exact e5, ?_⟩
      have e38 : cm' 38 s = cm 38 s := funext fun j => h 38 s j (by rw [scn]; omega)
      have e51 : cm' 51 s = cm 51 s := funext fun j => h 51 s j (by rw [scn]; omega)
      rw [OrS, e38, e51]
      exact f
  · rw [e 33 (by omega) (by omega)]; exact h6
theorem FR.cm {cm cm' : CM} {sh : Sh} {V : CV} (h : FR cm sh V) (e : ∀ k, k = 3 ∨ (19 ≤ k ∧ k ≤ 22) → cm' k = cm k) : FR cm' sh V := by
  have ha : ∀ col d f, about cm' col d f = about cm col d f := by
    intro col d
    induction d with
    | zero => intro f; rfl
    | succ d ih => intro f; rw [about, about, e 19 (by omega), e 20 (by omega), e 21 (by omega), ih, ih]
  obtain ⟨h1, h2, h3⟩ := h
  refine ⟨by rw [e 3 (by omega)]; exact h1, h2, fun j hj => ?_⟩
  have := h3 j hj
  rw [FR1] at this ⊢
  simp only [ha, e 19 (by omega), e 20 (by omega), e 21 (by omega), e 22 (by omega)]
  exact this
/-- the same for the first filters, when another one is added -/
theorem about_j {cm cm' : CM} {sh : Sh} {V : CV} (h : FR cm sh V) (e : ∀ k j, 19 ≤ k → k ≤ 21 → j < sh.F → cm' k 0 j = cm k 0 j) (col : Int32) : ∀ d j, j < sh.F → about cm' col d j = about cm col d j := by
  intro d
  induction d with
  | zero => intro j _; rfl
  | succ d ih =>
    intro j hj
    have hF := h.2.1
    obtain ⟨-, -, -, a, -, -, -⟩ := h.2.2 j hj
    rw [about, about, e 19 j (by omega) (by omega) hj, e 20 j (by omega) (by omega) hj, e 21 j (by omega) (by omega) hj]
    cases hJ : isJ (cm 19 0 j)
    · rfl
    · obtain ⟨x, y, hx, hy, ex, -, -, -, ey⟩ := a hJ
      simp only [if_true]
      rw [ex, nn_nI (by omega), ih x (by omega)]
      by_cases h9 : cm 19 0 j = 110
      · simp [h9]
      · rw [ey h9, nn_nI (by omega), ih y (by omega)]
/-- a filter for a row: what it looks at stays alike -/
theorem trF_j {cm cm' : CM} {sh : Sh} {V : CV} {r r' : Nat} {t t' : Int32} (h : FR cm sh V) (e : ∀ k j, 19 ≤ k → k ≤ 21 → j < sh.F → cm' k 0 j = cm k 0 j) : ∀ d j, j < sh.F → (∀ c, c < 4 → about cm (nI c) d j = true → lk cm' r' c t' = lk cm r c t) → trF cm' r' t' d j = trF cm r t d j := by
  intro d
  induction d with
  | zero => intro j _ _; rfl
  | succ d ih =>
    intro j hj hl
    have hF := h.2.1
    obtain ⟨-, -, -, a, b, -, -⟩ := h.2.2 j hj
    rw [trF, trF, e 19 j (by omega) (by omega) hj, e 20 j (by omega) (by omega) hj, e 21 j (by omega) (by omega) hj]
    simp only [about] at hl
    by_cases hJ : isJ (cm 19 0 j) = true
    · obtain ⟨x, y, hx, hy, ex, -, -, -, ey⟩ := a hJ
      simp only [hJ, if_true] at hl
      have hx' := ih x (by omega) fun c hc ha => hl c hc (by rw [ex, nn_nI (by omega), ha, Bool.true_or])
      rw [ex, nn_nI (by omega), hx']
      by_cases h9 : cm 19 0 j = 110
      · rw [if_pos h9, if_pos h9]
      · have hy' := ih y (by omega) fun c hc ha => hl c hc (by rw [ey h9, nn_nI (by omega), ha, decide_eq_false h9]; simp)
        rw [if_neg h9, if_neg h9, ey h9, nn_nI (by omega), hy']
        by_cases h7 : cm 19 0 j = 97
        · rw [if_pos h7, if_pos h7]
        · have h1 := ((isJ_iff.mp hJ).resolve_left h7).resolve_right h9
          rw [if_neg h7, if_neg h7, if_pos h1, if_pos h1]
    · simp only [hJ, Bool.false_eq_true, if_false] at hl
      have hn : ∀ k, isJ k = true → ¬ cm 19 0 j = k := fun k hk e => hJ (by rw [e]; exact hk)
      obtain ⟨-, c, hc, ec, -⟩ := b (by simpa using hJ)
      have := hl c hc (by rw [ec, decide_eq_true rfl])
      rw [if_neg (hn 110 (by decide)), if_neg (hn 97 (by decide)), if_neg (hn 111 (by decide)), if_neg (hn 110 (by decide)), if_neg (hn 97 (by decide)), if_neg (hn 111 (by decide)), ec, nn_nI (by omega), this]


