-- deps: 9l.simh
/-! reading: both sides -/
theorem rdB_P {cm : CM} {sh : Sh} {V : CV} {R M G P Dn s : Nat} (H : RdR cm sh V R M G P Dn) (hP : P < 10) (hs : s < sh.S) (hb : rdB cm s = true) : P < sh.C := by
  obtain ⟨hT, -, -, -, -, hCe, -, -, e5, -, -, -, -, -, -, hSc⟩ := H
  obtain ⟨j, ns, ts, x, y, H1, -⟩ := hSc s hs
  obtain ⟨-, -, -, -, -, -, -, -, -, -, b2, hns, -⟩ := H1
  have hR := hT.1
  rw [rdB, e5, b2, Bool.and_eq_true, Bool.and_eq_true, decide_eq_true_eq, decide_eq_true_eq] at hb
  have := (nI_ltq (by omega) (by omega)).mp hb.2.1
  omega
theorem RdR.D {cm : CM} {sh : Sh} {V : CV} {R M G P Dn : Nat} (H : RdR cm sh V R M G P Dn) : Dn ≤ sh.S ∧ sh.S ≤ 40 := by
  obtain ⟨-, -, -, -, -, -, -, -, -, -, -, hS, -, -, hDn, -⟩ := H
  exact ⟨by rw [hDn]; exact cntN_le _ _, hS⟩
theorem in_eq {cm : CM} {cl : CL} {sh : Sh} {V : CV} {R M G P Dn : Nat} (H : RdR cm sh V R M G P Dn) (hP : P < sh.C) (hC : sh.C ≤ 10) : ∀ s, s ≤ sh.S → (∃ D', RdR (rdI (cm, cl, false) s).1 sh (gpI sh P (V, false) s).1 R M G P D') ∧ (rdI (cm, cl, false) s).2.2 = (gpI sh P (V, false) s).2 ∧ (rdI (cm, cl, false) s).2.1 46 = cl 46 := by
  intro s
  induction s with
  | zero => intro _; exact ⟨⟨Dn, H⟩, rfl, rfl⟩
  | succ s ih =>
    intro hs
    obtain ⟨⟨D1, H1⟩, e1, e2⟩ := ih (by omega)
    rw [rdI, gpI]
    generalize rdI (cm, cl, false) s = z at *
    generalize gpI sh P (V, false) s = w at *
    obtain ⟨c, l, r⟩ := z
    obtain ⟨W, r2⟩ := w
    simp only at H1 e1 e2 ⊢
    have hd := H1.D
    have hB : rdB c s = scT W (400 + 20 * s) P := by
      obtain ⟨hT, -, -, -, -, -, -, -, e5, -, -, -, -, -, -, hSc⟩ := H1
      exact step_B (hSc s (by omega)) hT.1 (by omega) e5 (by omega)
    rw [rdS, spS]
    simp only
    cases hb : rdB c s
    · rw [← hB, hb, if_neg (by decide), if_neg (by decide)]
      exact ⟨⟨D1, H1⟩, e1, e2⟩
    · obtain ⟨⟨-, -, -, q4⟩, D2, q5⟩ := step_S H1 hP (by omega) hb
      rw [← hB, hb, if_pos rfl, if_pos rfl]
      refine ⟨⟨D2, q5⟩, by simp only; rw [q4, e1], ?_⟩
      simp only
      rw [← e2, loL]
      split
      · rfl
      · rfl
theorem rdE_eq {cm : CM} {sh : Sh} {V : CV} {R M G P Dn : Nat} (H : RdR cm sh V R M G P Dn) (hP : P < 10) : RdR (rdE cm) sh (spE sh V) R M G (if P + 1 < sh.C then P + 1 else 0) Dn := by
  obtain ⟨hT, hF, hFs, hL14, hL4, hCe, hCk, hz, e5, v8, e4, hS, e45, v10, hDn, hSc⟩ := H
  obtain ⟨hR, -, -, h0, -⟩ := id hT
  have n5 : ∀ k, k ≠ 5 → rdE cm k = cm k := fun k hk => by rw [rdE, c3_n hk]
  have hN : FrN cm (rdE cm) := fun k hk => n5 k fun e => by subst e; exact Bool.noConfusion hk
  have hX : FrX 1000 cm (rdE cm) → True := fun _ => trivial
  have nV : ∀ i, i ≠ 0 → spE sh V i = V i := fun i hi => by rw [spE, c2_n _ _ _ hi]
  have e1 : (1 : Int32) = nI 1 := rfl
  have eP : ∀ a : Int32, a = nI P → (if a + 1 < nI sh.C then a + 1 else 0) = nI (if P + 1 < sh.C then P + 1 else 0) := by
    rintro a rfl
    rw [e1, nI_add]
    by_cases h : P + 1 < sh.C
    · rw [if_pos ((nI_ltq (by omega) (by omega)).mpr h), if_pos h]
    · rw [if_neg fun q => h ((nI_ltq (by omega) (by omega)).mp q), if_neg h]
      rfl
  have eC : chN cm = nI sh.C := by rw [chN_nI hR h0, hCe]
  refine ⟨hN.tm hT, hN.fr (hF.cg fun i h1 h2 => nV i (by omega)), FsOk_cg (nV 7 (by omega)) hFs, LsOk_cgv (nV 14 (by omega)) hL14, LsOk_cgv (nV 4 (by omega)) hL4, hCe, fun k hk => ((hCk k hk).cgN hN).cg fun i h1 h2 => nV i (by omega), fun k h1 h2 c hc => by rw [n5 17 (by decide)]; exact hz k h1 h2 c hc, ?_, ?_, by rw [n5 4 (by decide)]; exact e4, hS, by rw [n5 45 (by decide)]; exact e45, ?_, by rw [n5 33 (by decide)]; exact hDn, fun s hs => ?_⟩
  · rw [rdE, c3_s, upd_s, eC]
    exact eP _ e5
  · rw [spE, c2_s, upd_s]
    exact eP _ v8
  · rw [spE, c2_s, upd_n _ _ (by decide)]
    exact v10
  · obtain ⟨j, ns, ts, x, y, H1, h2, h3, ⟨⟨x1, x2, x3, x4, x5⟩, n, h4, g1, g2⟩, h5, h6⟩ := hSc s hs
    have hv : ∀ i, 400 + 20 * s ≤ i → i < 420 + 20 * s → spE sh V i = V i := fun i h _ => nV i (by omega)
    refine ⟨j, ns, ts, x, y, H1.cg2 hN hv, h2, h3, ⟨⟨x1, ?_, ?_, ?_, ?_⟩, n, h4, ?_, ?_⟩, ?_, ?_⟩
    · rw [nV _ (by omega)]; exact x2
    · rw [n5 37 (by decide)]; exact x3
    · rw [n5 29 (by decide)]; exact x4
    · rw [nV _ (by omega), n5 30 (by decide)]; exact x5
    · simp only [hN.al]
      exact g1.cgM (fun k hk => n5 k (by omega)) (nV _ (by omega)) (nV _ (by omega))
    · exact g2.cg (n5 _ (by decide)) (n5 _ (by decide)) (n5 _ (by decide)) (n5 _ (by decide)) (n5 _ (by decide)) (n5 _ (by decide)) (fun q _ => by rw [n5 38 (by decide)]) (nV _ (by omega)) (nV _ (by omega)) (nV _ (by omega))
    · rw [DnS] at h5 ⊢
      rw [nV _ (by omega), n5 33 (by decide), n5 34 (by decide)]
      simp only [OrS, n5 51 (by decide), n5 38 (by decide)] at h5 ⊢
      exact h5
    · rw [n5 33 (by decide)]; exact h6
/-- how many are open -/
theorem op_eq {cm : CM} {sh : Sh} {V : CV} {R M G P Dn : Nat} (H : RdR cm sh V R M G P Dn) : opN cm = sumI (opC V) sh.S ∧ (∃ m, opN cm = nI m ∧ m ≤ 40) ∧ (¬ opN cm = 0 → 0 < sh.C) := by
  have hd := H.D
  obtain ⟨hT, -, -, -, -, hCe, -, -, -, -, e4, hS, -, -, -, hSc⟩ := H
  have e : opN cm = sumI (opF cm) sh.S := by rw [opN, e4, nn_nI (by omega)]
  have key : ∀ s, s < sh.S → opF cm s = opC V s := by
    intro s hs
    obtain ⟨j, ns, ts, x, y, -, -, -, -, h5, -⟩ := hSc s hs
    rw [opF, opC]
    rcases h5 with ⟨a, b⟩ | ⟨d, n, hd2, -, b, a, -⟩
    · rw [if_pos a, if_pos b]
    · rw [if_neg, if_neg]
      · rw [b]; intro q
        have := congrArg Int32.toInt q
        rw [nI_ti (by omega)] at this
        exact absurd this (by rw [show (-1 : Int32).toInt = -1 from by decide]; omega)
      · rw [a, show (0 : Int32) = nI 0 from rfl]
        intro q
        have := nI_i q (by omega) (by omega)
        omega
  refine ⟨by rw [e, sumI_cg key], ?_, fun h0 => ?_⟩
  · obtain ⟨m, h1, h2⟩ := sumI_le (F := opF cm) (fun i => by rw [opF]; split; exact .inr rfl; exact .inl rfl) sh.S
    exact ⟨m, by rw [e, h2], by omega⟩
  · refine Classical.byContradiction fun h9 => h0 ?_
    rw [e]
    have : ∀ n, n ≤ sh.S → sumI (opF cm) n = 0 := by
      intro n
      induction n with
      | zero => intro _; rfl
      | succ n ih =>
        intro hn
        rw [sumI, ih (by omega), opF, if_neg]
        · rfl
        · obtain ⟨j, ns, ts, x, y, H1, -, h3, -, -, h6⟩ := hSc n (by omega)
          obtain ⟨-, -, -, -, -, -, -, -, -, -, -, hns, -⟩ := H1
          intro q
          have h7 := h6.mp q
          have := pc_le h3 (by have := hT.1; omega)
          omega
    exact this _ (Nat.le_refl _)


