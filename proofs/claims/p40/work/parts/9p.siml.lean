-- deps: 9o.simk
theorem tb_R {cm : CM} {sh : Sh} {V : CV} {R M G P Dn s z : Nat} (H : RdR cm sh V R M G P Dn) (hs : s < sh.S) (hz : 1 ≤ z) (hz6 : z ≤ 6) :
    RdR (tbC s (2 * nI z) 5 (c3 cm 26 0 s (nI z))) sh (paU (400 + 20 * s + 6) (2 * nI z) 4 (c2 V (400 + 20 * s + 6) 2 (nI z))) R M G P Dn ∧ V (400 + 20 * s + 6) 3 = cm 31 0 s ∧ paU (400 + 20 * s + 6) (2 * nI z) 4 (c2 V (400 + 20 * s + 6) 2 (nI z)) (400 + 20 * s + 6) 3 = tbC s (2 * nI z) 5 (c3 cm 26 0 s (nI z)) 31 0 s ∧ tbS (c3 cm 26 0 s (nI z)) s (2 * nI z) := by
  obtain ⟨hT, hF, hFs, hL14, hL4, hCe, hCk, hz7, e5, v8, e4, hS, e45, v10, hDn, hSc⟩ := H
  obtain ⟨j, ns, ts, x, y, H1, hts, hx2, ⟨⟨x1, x2, x3, x4, x5⟩, n, h, g1, ⟨hP, hI, e26, y1, y6, hh⟩⟩, hDs, hiff⟩ := hSc s hs
  obtain ⟨p1, p2, p3, p4, p5⟩ := id hP
  have hns : ns ≤ R := H1.2.2.2.2.2.2.2.2.2.2.2.1
  have hR := hT.1
  have hB : pas x (fun r => aliveM cm r (nI ts)) ns ≤ ns := cntN_le _ ns
  have hn := g1.2.2.2.1
  have P1 : PaC (c3 cm 26 0 s (nI z)) (c2 V (400 + 20 * s + 6) 2 (nI z)) s h := by
    rw [PaC, c3_n (k' := 36) (by decide), c3_n (k' := 35) (by decide), c3_n (k' := 31) (by decide), c3_n (k' := 32) (by decide), c3_s, upd_s, c2_n _ _ _ (by omega), c2_n _ _ _ (by omega), c2_s, upd_s, upd_n _ _ (by decide), upd_n _ _ (by decide)]
    exact ⟨p1, p2, rfl, p4, p5⟩
  have I1 : IsI (c3 cm 26 0 s (nI z)) s n := by
    rw [IsI, c3_n (by decide), c3_n (by decide), c3_n (by decide)]
    exact hI
  rw [nI_2m]
  obtain ⟨h', t1, t2, t3, t4, t5, t6⟩ := tb_eq (s := s) (l := 2 * z) (k := n) (by omega) 4 5 4 _ _ h (nz_4 h) (by omega) (by omega) P1 I1 (by rw [c3_n (by decide), g1.2.1, nn_nI (by omega)]; omega) (by omega)
  have hX : FrX s cm (tbC s (nI (2 * z)) 5 (c3 cm 26 0 s (nI z))) := (FrX.rfl.c3 (by rw [own]; omega)).trans t4
  have s1 := t1.sum.2
  have hbS : tbS (c3 cm 26 0 s (nI z)) s (nI (2 * z)) := by
    rw [tbS, s1, nI_ltq (by omega) (by omega)]; omega
  have ek : ∀ q, q ≠ 26 → q ≠ 31 → q ≠ 35 → q ≠ 36 → q ≠ 44 → tbC s (nI (2 * z)) 5 (c3 cm 26 0 s (nI z)) q = cm q := fun q q0 q1 q2 q3 q4 => by rw [t5 q q1 q2 q3 q4, c3_n q0]
  have e26' : tbC s (nI (2 * z)) 5 (c3 cm 26 0 s (nI z)) 26 0 s = nI z := by rw [t5 26 (by decide) (by decide) (by decide) (by decide), c3_s, upd_s]
  have ev : ∀ i, i ≠ 400 + 20 * s + 6 → i ≠ 400 + 20 * s + 7 → i ≠ 400 + 20 * s + 8 → paU (400 + 20 * s + 6) (nI (2 * z)) 4 (c2 V (400 + 20 * s + 6) 2 (nI z)) i = V i := fun i i1 i2 i3 => by rw [t6 i i1 i2 i3, c2_n _ _ _ i1]
  generalize tbC s (nI (2 * z)) 5 (c3 cm 26 0 s (nI z)) = c at *
  generalize paU (400 + 20 * s + 6) (nI (2 * z)) 4 (c2 V (400 + 20 * s + 6) 2 (nI z)) = W at *
  have hN := hX.N
  have hlow : ∀ i, i < 400 → W i = V i := fun i hi => ev i (by omega) (by omega) (by omega)
  refine ⟨⟨hN.tm hT, hN.fr (hF.cg fun i h1 h2 => hlow i (by omega)), FsOk_cg (hlow 7 (by omega)) hFs, LsOk_cgv (hlow 14 (by omega)) hL14, LsOk_cgv (hlow 4 (by omega)) hL4, hCe, fun k hk => ((hCk k hk).cgN hN).cg fun i h1 h2 => hlow i (by omega), fun k h1 h2 c' hc => by rw [ek 17 (by decide) (by decide) (by decide) (by decide) (by decide)]; exact hz7 k h1 h2 c' hc, by rw [ek 5 (by decide) (by decide) (by decide) (by decide) (by decide)]; exact e5, by rw [hlow 0 (by omega)]; exact v8, by rw [ek 4 (by decide) (by decide) (by decide) (by decide) (by decide)]; exact e4, hS, by rw [ek 45 (by decide) (by decide) (by decide) (by decide) (by decide)]; exact e45, by rw [hlow 0 (by omega)]; exact v10, by rw [ek 33 (by decide) (by decide) (by decide) (by decide) (by decide)]; exact hDn, fun q hq => ?_⟩, p4, t1.2.2.2.1, hbS⟩
  by_cases e : q = s
  · rw [e]
    have eo := ev (400 + 20 * s) (by omega) (by omega) (by omega)
    refine ⟨j, ns, ts, x, z, H1.cg hN ⟨fun i hi h1 h0 => ?_, fun k _ => by rw [eo]⟩, hts, hx2, ⟨⟨x1, by rw [eo]; exact x2, by rw [ek 37 (by decide) (by decide) (by decide) (by decide) (by decide)]; exact x3, by rw [ek 29 (by decide) (by decide) (by decide) (by decide) (by decide)]; exact x4, by rw [eo, ek 30 (by decide) (by decide) (by decide) (by decide) (by decide)]; exact x5⟩, n, h', ?_, ⟨t1, t2, e26', hz, hz6, t3⟩⟩, ?_, by rw [ek 33 (by decide) (by decide) (by decide) (by decide) (by decide)]; exact hiff⟩
    · obtain ⟨-, -, -, -, -, -, v6, v7, v8⟩ := v9_n hi
      exact ev i v6 v7 v8
    · simp only [hN.al]
      exact g1.cgM (fun k hk => ek k (by omega) (by omega) (by omega) (by omega) (by omega)) (ev _ (by omega) (by omega) (by omega)) (ev _ (by omega) (by omega) (by omega))
    · rw [DnS] at hDs ⊢
      rw [eo, ek 33 (by decide) (by decide) (by decide) (by decide) (by decide), ek 34 (by decide) (by decide) (by decide) (by decide) (by decide)]
      simp only [OrS, ek 51 (by decide) (by decide) (by decide) (by decide) (by decide), ek 38 (by decide) (by decide) (by decide) (by decide) (by decide)] at hDs ⊢
      exact hDs
  · exact (hSc q hq).oth hX e (fun i h1 h2 => ev i (by omega) (by omega) (by omega)) (Nat.le_refl _)


