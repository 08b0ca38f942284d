-- deps: 9m.simi
/-! reading: the loop, and what both sides' calls stand upon -/
theorem gpI_8 {cm : CM} {sh : Sh} {V : CV} {R M G P Dn : Nat} (H : RdR cm sh V R M G P Dn) (hP : P < 10) : nn (V 0 8) = P := by
  obtain ⟨-, -, -, -, -, -, -, -, -, v8, -⟩ := H
  rw [v8, nn_nI (by omega)]
theorem rd_eq {sh : Sh} {R M G : Nat} (hC : sh.C ≤ 10) : ∀ n (cm : CM) (cl : CL) (V : CV) (L : Int64) (P Dn : Nat), RdR cm sh V R M G P Dn → P < 10 → (P < sh.C ∨ P = 0) → cl 46 = L →
    (∃ P' D', RdR (rdO sh.S n (cm, cl)).1 sh (grO sh n (V, L)).1.1 R M G P' D' ∧ P' < 10 ∧ (P' < sh.C ∨ P' = 0)) ∧ (rdO sh.S n (cm, cl)).2.1 46 = (grO sh n (V, L)).1.2 ∧ (rdO sh.S n (cm, cl)).2.2 = (grO sh n (V, L)).2 := by
  intro n
  induction n with
  | zero => intro cm cl V L P Dn H hP hP2 hL; exact ⟨⟨P, Dn, H, hP, hP2⟩, hL, rfl⟩
  | succ n ih =>
    intro cm cl V L P Dn H hP hP2 hL
    obtain ⟨o1, ⟨m, o2, o3⟩, o4⟩ := op_eq H
    rw [rdO, grO]
    simp only
    rw [← o1]
    by_cases h0 : opN cm = 0
    · rw [if_neg (show ¬ 0 < opN cm by rw [h0]; exact fun q => Int32.lt_irrefl q), if_pos h0]
      exact ⟨⟨P, Dn, H, hP, hP2⟩, hL, rfl⟩
    · have hpos : 0 < opN cm := by
        rw [o2, show (0 : Int32) = nI 0 from rfl, nI_ltq (by omega) (by omega)]
        refine Nat.pos_of_ne_zero fun q => h0 ?_
        rw [o2, q]; rfl
      rw [if_pos hpos, if_neg h0]
      have hPC : P < sh.C := by have := o4 h0; omega
      obtain ⟨⟨D1, H1⟩, e1, e2⟩ := in_eq (cl := cl) H hPC hC sh.S (Nat.le_refl _)
      have H2 := rdE_eq H1 hP
      have e8 := gpI_8 H hP
      rw [stp]
      simp only
      rw [e8]
      generalize rdI (cm, cl, false) sh.S = z at *
      generalize gpI sh P (V, false) sh.S = w at *
      obtain ⟨i1, i2, i3⟩ := ih (rdE z.1) (rdL z) (spE sh w.1) (if w.2 = true then L + 1 else L) _ D1 H2 (by split <;> omega) (by split <;> omega) (by
        rw [← e1, rdL, ← hL, ← e2]
        cases z.2.2 <;> simp [cl1])
      exact ⟨i1, i2, by rw [i3]⟩
theorem rd_pre {cm : CM} {sh : Sh} {V : CV} {R M G P Dn : Nat} (H : RdR cm sh V R M G P Dn) (hC : sh.C ≤ 10) (hP : P < 10) : ∃ I : CM → Prop, RdOk sh.S I ∧ I cm := by
  refine ⟨fun c => ∃ V P Dn, RdR c sh V R M G P Dn ∧ P < 10, ⟨?_, ?_, ?_⟩, V, P, Dn, H, hP⟩
  · rintro c ⟨V, P, Dn, H, hP⟩
    obtain ⟨-, -, -, -, -, -, -, -, e5, -, e4, -⟩ := H
    exact ⟨e4, P, hP, e5⟩
  · rintro c s ⟨V, P, Dn, H, hP⟩ hs hb
    obtain ⟨⟨q1, q2, -, -⟩, D2, q5⟩ := step_S H (rdB_P H hP hs hb) hs hb
    exact ⟨q1, q2, _, P, D2, q5, hP⟩
  · rintro c ⟨V, P, Dn, H, hP⟩
    exact ⟨_, _, Dn, rdE_eq H hP, by split <;> omega⟩
theorem gr_pre {cm : CM} {sh : Sh} {V : CV} {R M G P Dn : Nat} (H : RdR cm sh V R M G P Dn) (hC : sh.C ≤ 10) (hP : P < 10) (hP2 : P < sh.C ∨ P = 0) : ∃ J : CV → Prop, RrOk sh J ∧ J V := by
  refine ⟨fun W => ∃ c P Dn, RdR c sh W R M G P Dn ∧ P < 10 ∧ (P < sh.C ∨ P = 0), ⟨?_, ?_⟩, cm, P, Dn, H, hP, hP2⟩
  · rintro W ⟨c, P, Dn, H, -⟩
    obtain ⟨-, -, -, h14, -⟩ := H
    exact h14
  · rintro W ⟨c, P, Dn, H, hP, hP2⟩ h0
    obtain ⟨o1, -, o4⟩ := op_eq H
    rw [← o1] at h0
    have hPC : P < sh.C := by have := o4 h0; omega
    refine ⟨⟨P, fun W => ∃ c Dn, RdR c sh W R M G P Dn, hPC, ?_, ⟨?_, ?_⟩, c, Dn, H⟩, ?_⟩
    · obtain ⟨-, -, -, -, -, -, -, -, -, v8, -⟩ := H
      exact v8
    · rintro W ⟨c, Dn, H⟩
      obtain ⟨-, -, -, h14, h4, -, -, -, -, v8, -⟩ := H
      exact ⟨h14, h4, v8⟩
    · rintro W s hs ⟨c, Dn, H⟩ hb
      have hd := H.D
      have hB : rdB c s = scT W (400 + 20 * s) P := by
        obtain ⟨hT, -, -, -, -, -, -, -, e5, -, -, -, -, -, -, hSc⟩ := H
        exact step_B (hSc s hs) hT.1 (by omega) e5 hP
      obtain ⟨⟨-, -, q3, -⟩, D2, q5⟩ := step_S H hPC hs (by rw [hB]; exact hb)
      exact ⟨q3, _, D2, q5⟩
    · obtain ⟨⟨D1, H1⟩, -, -⟩ := in_eq (cl := fun _ => 0) H hPC hC sh.S (Nat.le_refl _)
      have e8 := gpI_8 H hP
      have e : (stp sh (W, 0)).1 = spE sh (gpI sh P (W, false) sh.S).1 := by
        rw [stp]
        simp only
        rw [e8]
      rw [e]
      exact ⟨_, _, D1, rdE_eq H1 hP, by split <;> omega, by split <;> omega⟩


