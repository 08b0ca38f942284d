-- deps: a4.simA
/-! a chunk is mended: all that both sides keep -/
theorem BdI.at {cm cm' : CM} {a : Nat} {v : Int32} (h : ∀ l, 14 ≤ l ∧ l ≤ 18 ∧ l ≠ 16 → cm' l 0 a = cm l 0 a) (H : BdI cm a v) : BdI cm' a v := by
  rw [BdI] at H ⊢
  rw [h 14 (by omega), h 15 (by omega), h 17 (by omega), h 18 (by omega)]
  exact H
theorem opN_0 {cm : CM} {S : Nat} (e4 : cm 4 0 0 = nI S) (hS : S ≤ 40) (h : ¬ 0 < opN cm) : ∀ s, s < S → ¬ cm 33 0 s = 0 := by
  have e : opN cm = nI (cntN (fun s => decide (cm 33 0 s = 0)) S) := by
    rw [opN, e4, nn_nI (by omega)]
    clear e4 h hS
    induction S with
    | zero => rfl
    | succ S ih =>
      rw [sumI, ih, cntN, opF]
      by_cases h : cm 33 0 S = 0
      · rw [if_pos h, decide_eq_true h, if_pos rfl, show (1 : Int32) = nI 1 from rfl, nI_add]
      · rw [if_neg h, decide_eq_false h, Int32.add_zero]; rfl
  have hc := cntN_le (fun s => decide (cm 33 0 s = 0)) S
  have h0 : cntN (fun s => decide (cm 33 0 s = 0)) S = 0 := by
    refine Classical.byContradiction fun q => h ?_
    rw [e]
    show nI 0 < _
    rw [nI_ltq (by omega) (by omega)]
    omega
  intro s hs h33
  have := cntN_mono (p := fun s => decide (cm 33 0 s = 0)) (m := s + 1) (S - (s + 1))
  rw [show s + 1 + (S - (s + 1)) = S by omega, cntN, decide_eq_true h33, if_pos rfl] at this
  omega
theorem md_R {cm : CM} {cl : CL} {sh : Sh} {V : CV} {L : Int64} {M k : Nat} (H : SR cm cl sh V L M) (hk : k < sh.C) (hop : ¬ 0 < opN cm) :
    SR (c3 (mdC cm k (nn (roN cm (nI k))) 4) 16 0 k 0) cl sh (chR sh (bFo (c2 V (100 + 10 * k) 4 0) (100 + 10 * k + 2) 4) (100 + 10 * k) (nn (V (100 + 10 * k) 0)) (nn (V (100 + 10 * k) 3))) L M ∧ V (100 + 10 * k) 4 = cm 16 0 k := by
  obtain ⟨R, G, P, Dn, w, W, hRd, hP, ⟨m1, m2, m3⟩, ⟨n1, n2, n3, n4, n5⟩, hWt, hFh, hLn, hTc, hBs, hOp, hCl⟩ := H
  have hts := hRd.ts
  obtain ⟨hT, hF, hFs, hL14, hL4, hCe, hCk, hz, e5, v8, e4, hS, e45, v10, hDn, hSc⟩ := id hRd
  obtain ⟨hR, hM1, hG, h0, h1, h2, hTL, hTA⟩ := id hT
  have hF30 := hF.2.1
  have h33 := opN_0 e4 hS hop
  obtain ⟨c1, c2', c3', c4, c5, c6, c7⟩ := hCk k hk
  have er : nn (roN cm (nI k)) = min 16 (R - 16 * k) := rN_min hR h0 (by omega)
  rw [er, c1, c2', nn_nI (by omega), nn_nI (by omega)]
  refine ⟨?_, c3'⟩
  generalize hn : min 16 (R - 16 * k) = n
  have hn16 : n ≤ 16 ∧ 16 * k + n ≤ R ∧ (∀ i, i < 16 → (16 * k + i < R ↔ i < n)) := by
    refine ⟨by omega, by omega, fun i hi => by omega⟩
  -- what both sides lay in
  have hmv : ∀ r c, r < R → c < 4 → vl (mdV cm r c) ∧ (cm 9 0 r = 0 → mdV cm r c = lk cm r c (nI M)) := by
    intro r c hr hc
    obtain ⟨-, ⟨b, hb, eb⟩, -⟩ := hTA r hr
    rw [mdV, h1]
    split
    · rename_i h
      exact ⟨.inl rfl, fun h9 => by rw [h9] at h; exact absurd h Int32.lt_irrefl⟩
    · exact ⟨lk_vl hT _ hr hc, fun _ => rfl⟩
  have hV1 : ∀ j, j ≠ 100 + 10 * k → c2 V (100 + 10 * k) 4 0 j = V j := fun j hj => c2_n _ _ _ hj
  have hal : ∀ r, r < R → rAl sh (c2 V (100 + 10 * k) 4 0) 1 r = decide (cm 9 0 r = 0) := fun r hr => by
    rw [rAl_cg (hV1 3 (by omega)), n1.al, decide_eq_true hr, Bool.true_and, alive_M hT hr]
  have htb : ∀ r c, r < R → c < 4 → tbV sh (c2 V (100 + 10 * k) 4 0) r c = mp (mdV cm r c) := by
    intro r c hr hc
    obtain ⟨-, ⟨b, hb, eb⟩, -⟩ := hTA r hr
    rw [tbV, hal r hr, rVal_cg (hV1 1 (by omega)) (hV1 2 (by omega)), n1.val hr hc, mdV, h1]
    by_cases h9 : cm 9 0 r = 0
    · rw [h9]; rfl
    · have hb0 : 0 < cm 9 0 r := by
        rw [eb, show (0 : Int32) = nI 0 from rfl, nI_ltq (by omega) (by omega)]
        refine Nat.pos_of_ne_zero fun q => h9 ?_
        rw [eb, q]; rfl
      rw [decide_eq_false h9, if_pos hb0]; rfl
  obtain ⟨g1, g2, g3, g4⟩ := mdC_e (cm := cm) (k := k) hn16.1 4 (Nat.le_refl _)
  have gn := fun j a b c d e => mdC_n (cm := cm) (q := k) (n := n) (k := j) a b c d e 4
  have hcol : ∀ c, c < 4 → BdS1 (mdC cm k n 4) (chR sh (bFo (c2 V (100 + 10 * k) 4 0) (100 + 10 * k + 2) 4) (100 + 10 * k) (16 * k) n) (100 + 10 * k + 2) k c ∧ ∀ q, q < n → cm 9 0 (16 * k + q) = 0 → BdI (mdC cm k n 4) (4 * k + c) (lk cm (16 * k + q) c (nI M)) := by
    intro c hc
    obtain ⟨X, x1, x2⟩ := g4 c hc
    have eX : ∀ r, mdV X r c = mdV cm r c := fun r => mdV_ck (fun j hj => x1 j (by omega) (by omega) (by omega) (by omega) (by omega)) r c
    have e9 : X 9 = cm 9 := x1 9 (by decide) (by decide) (by decide) (by decide) (by decide)
    obtain ⟨q1, q2⟩ := md_bd (X := X) (sh := sh) (V1 := c2 V (100 + 10 * k) 4 0) (k := k) hc hn16.1 (fun i hi => by
      rw [eX, e9]
      exact ⟨(hmv _ c (by omega) hc).1, hal _ (by omega), htb _ c (by omega) hc⟩) n (Nat.le_refl _)
    refine ⟨q1.ck (fun l hl => x2 l (by omega)) rfl rfl rfl, fun q hq h9 => ?_⟩
    have := q2 q hq (by rw [e9]; exact h9)
    rw [eX, (hmv _ c (by omega) hc).2 h9] at this
    exact this.at fun l hl => x2 l (by omega)
  have hVn : ∀ j, j ≠ 100 + 10 * k → j ≠ 100 + 10 * k + 1 → j ≠ 100 + 10 * k + 3 → j ≠ 100 + 10 * k + 4 → j ≠ 100 + 10 * k + 5 → chR sh (bFo (c2 V (100 + 10 * k) 4 0) (100 + 10 * k + 2) 4) (100 + 10 * k) (16 * k) n j = V j := fun j a b c d e => by
    rw [chR_n b c d e, bFo_n c d e, c2_n _ _ _ a]
  have hVo : chR sh (bFo (c2 V (100 + 10 * k) 4 0) (100 + 10 * k + 2) 4) (100 + 10 * k) (16 * k) n (100 + 10 * k) = upd (V (100 + 10 * k)) 4 0 := by
    rw [chR_n (by omega) (by omega) (by omega) (by omega), bFo_n (by omega) (by omega) (by omega), c2_s]
  have hVb : ∀ q c, c < 4 → chR sh (bFo (c2 V (100 + 10 * k) 4 0) (100 + 10 * k + 2) 4) (100 + 10 * k) (16 * k) n (100 + 10 * k + 1) (4 * q + c) = if q < n then tbV sh (c2 V (100 + 10 * k) 4 0) (16 * k + q) c else V (100 + 10 * k + 1) (4 * q + c) := by
    intro q c hc
    have el : ∀ j, j = 1 ∨ j = 2 ∨ j = 3 → bFo (c2 V (100 + 10 * k) 4 0) (100 + 10 * k + 2) 4 j = c2 V (100 + 10 * k) 4 0 j := fun j hj => bFo_n (by omega) (by omega) (by omega) 4
    rw [chR_v hc (by omega), bFo_n (by omega) (by omega) (by omega), c2_n _ _ _ (by omega), tbV, tbV, rAl_cg (el 3 (by omega)), rVal_cg (el 1 (by omega)) (el 2 (by omega))]
  generalize chR sh (bFo (c2 V (100 + 10 * k) 4 0) (100 + 10 * k + 2) 4) (100 + 10 * k) (16 * k) n = V' at *
  have k16 : ∀ j, j ≠ 16 → c3 (mdC cm k n 4) 16 0 k 0 j = mdC cm k n 4 j := fun j hj => c3_n hj
  have s16 : c3 (mdC cm k n 4) 16 0 k 0 16 0 = upd (cm 16 0) k 0 := by rw [c3_s, gn 16 (by decide) (by decide) (by decide) (by decide) (by decide)]
  have eF : ∀ j, j ≤ 6 ∨ (8 ≤ j ∧ j ≤ 13) ∨ 19 ≤ j → c3 (mdC cm k n 4) 16 0 k 0 j = cm j := fun j hj => by rw [k16 j (by omega), gn j (by omega) (by omega) (by omega) (by omega) (by omega)]
  have e7 : ∀ a, c3 (mdC cm k n 4) 16 0 k 0 7 0 a = mdC cm k n 4 7 0 a := fun a => by rw [k16 7 (by decide)]
  have eB : ∀ l, 14 ≤ l ∧ l ≤ 18 ∧ l ≠ 16 → ∀ a, c3 (mdC cm k n 4) 16 0 k 0 l 0 a = mdC cm k n 4 l 0 a := fun l hl a => by rw [k16 l (by omega)]
  generalize c3 (mdC cm k n 4) 16 0 k 0 = cm' at *
  have hE : TmE cm cm' R M := TmE.of fun k hk => eF k (by omega)
  have hsco := scans_ok (cm' := cm') (sh' := sh) (W := V') (R' := R) (M' := M) (S := sh.S) hRd hCl (Nat.le_refl _) (fun s _ => ScE.of fun k hk => eF k (by omega)) hE (fun k j h1 h2 _ => by rw [eF k (by omega)]) (Nat.le_refl _) (Nat.le_refl _) (fun q t a b => by omega) (fun i a b => hVn i (by omega) (by omega) (by omega) (by omega) (by omega)) (Nat.le_refl _) (fun _ _ _ => rfl)
  refine ⟨R, G, P, Dn, w, W, ⟨hT.ck fun k hk => eF k (by omega), ?_, ?_, ?_, ?_, hCe, fun q hq => ?_, fun q ha hb x hx => ?_, ?_, ?_, ?_, hS, ?_, ?_, ?_, fun s hs => (hsco s hs).1⟩, hP, ⟨?_, ?_, fun x hx => ?_⟩, ⟨?_, n2, ?_, n4, n5⟩, hWt.ck fun k hk => eF k (by omega), ⟨fun a ha => ?_, fun q ha hb => ⟨?_, fun x hx => ?_⟩, fun s ha hb => ⟨?_, ?_⟩⟩, ?_, hTc.ck fun k hk => eF k (by omega), ?_, ?_, fun s hs => (hsco s hs).2⟩
  · exact (hF.cm fun k hk => eF k (by omega)).cg fun i h1 h2 => hVn i (by omega) (by omega) (by omega) (by omega) (by omega)
  · exact FsOk_cg (hVn 7 (by omega) (by omega) (by omega) (by omega) (by omega)) hFs
  · exact LsOk_cgv (hVn 14 (by omega) (by omega) (by omega) (by omega) (by omega)) hL14
  · exact LsOk_cgv (hVn 4 (by omega) (by omega) (by omega) (by omega) (by omega)) hL4
  · by_cases hqk : q = k
    · subst hqk
      refine ⟨by rw [hVo, upd_n _ _ (by decide)]; exact c1, by rw [hVo, upd_n _ _ (by decide)]; exact c2', by rw [hVo, upd_s, s16, upd_s], c4, c5, fun x hx => (hcol x hx).1.ck (fun l hl => eB l hl _) rfl rfl rfl, fun i hi x hx => ?_⟩
      have ebv : bv cm' q x i = mdC cm q n 4 7 0 (4 * (16 * q + i) + x) := by rw [bv, e7]
      rw [ebv, hVb i x hx]
      refine ⟨fun hiR => ?_, fun hiR => ?_⟩
      · have hin := (hn16.2.2 i hi).mp hiR
        rw [if_pos hin, g1 i x hin hx, htb _ x hiR hx]
        exact ⟨rfl, (hmv _ x hiR hx).1⟩
      · rw [if_neg (fun h => by have := (hn16.2.2 i hi).mpr h; omega)]
        exact (c7 i hi x hx).2 hiR
    · obtain ⟨d1, d2, d3, d4, d5, d6, d7⟩ := hCk q hq
      refine ⟨by rw [hVn _ (by omega) (by omega) (by omega) (by omega) (by omega)]; exact d1, by rw [hVn _ (by omega) (by omega) (by omega) (by omega) (by omega)]; exact d2, by rw [hVn _ (by omega) (by omega) (by omega) (by omega) (by omega), s16, upd_n _ _ hqk]; exact d3, d4, d5, fun x hx => (d6 x hx).ck (fun l hl => by rw [eB l hl, g3 l _ (by omega) fun c hc => by omega]) (by rw [hVn _ (by omega) (by omega) (by omega) (by omega) (by omega)]) (by rw [hVn _ (by omega) (by omega) (by omega) (by omega) (by omega)]) (by rw [hVn _ (by omega) (by omega) (by omega) (by omega) (by omega)]), fun i hi x hx => ?_⟩
      have ebv : bv cm' q x i = bv cm q x i := by rw [bv, bv, e7, g2 _ fun q' c hq' hc => by omega]
      rw [ebv, hVn _ (by omega) (by omega) (by omega) (by omega) (by omega)]
      exact d7 i hi x hx
  · rw [eB 17 (by omega), g3 17 _ (by omega) fun c hc => by omega]; exact hz q ha hb x hx
  · rw [eF 5 (by omega)]; exact e5
  · rw [hVn 0 (by omega) (by omega) (by omega) (by omega) (by omega)]; exact v8
  · rw [eF 4 (by omega)]; exact e4
  · rw [eF 45 (by omega)]; exact e45
  · rw [hVn 0 (by omega) (by omega) (by omega) (by omega) (by omega)]; exact v10
  · rw [eF 33 (by omega)]; exact hDn
  · rw [hVn 0 (by omega) (by omega) (by omega) (by omega) (by omega)]; exact m1
  · rw [hVn 0 (by omega) (by omega) (by omega) (by omega) (by omega)]; exact m2
  · rw [hVn 18 (by omega) (by omega) (by omega) (by omega) (by omega)]; exact m3 x hx
  · exact n1.ce hE (Nat.le_refl _) (Nat.le_refl _) (hVn 1 (by omega) (by omega) (by omega) (by omega) (by omega)) (hVn 2 (by omega) (by omega) (by omega) (by omega) (by omega)) (hVn 3 (by omega) (by omega) (by omega) (by omega) (by omega)) rfl rfl
  · rw [hVn 1 (by omega) (by omega) (by omega) (by omega) (by omega), eF 9 (by omega)]; exact n3
  · rw [e7]
    by_cases h : a / 64 = k ∧ a % 64 / 4 < n
    · have ea : a = 4 * (16 * k + a % 64 / 4) + a % 4 := by omega
      rw [ea, g1 _ _ h.2 (by omega)]
      have hv := (hmv (16 * k + a % 64 / 4) (a % 4) (by omega) (by omega)).1
      rcases hv with h5 | h5
      · rw [h5]; exact ⟨by decide, by decide⟩
      · exact ⟨by omega, by omega⟩
    · rw [g2 a fun q c hq hc => by omega]; exact hFh.1 a ha
  · rw [s16, upd_n _ _ (by omega)]; exact (hFh.2.1 q ha hb).1
  · rw [eB 18 (by omega), g3 18 _ (by omega) fun c hc => by omega]; exact (hFh.2.1 q ha hb).2 x hx
  · rw [eF 50 (by omega)]; exact (hFh.2.2 s ha hb).1
  · exact (hFh.2.2 s ha hb).2.ck fun k hk i j => by rw [eF k (by omega)]
  · exact hLn.ck fun s hs => ⟨by rw [eF 29 (by omega)], by rw [eF 30 (by omega)]⟩
  · intro r hr ha c hc
    obtain ⟨t1, t2⟩ := hE r M hr (Nat.le_refl _)
    rw [t2] at ha
    rw [t1 c hc]
    have h9 : cm 9 0 r = 0 := by rw [alive_M hT hr, decide_eq_true_eq] at ha; exact ha
    by_cases hrk : r / 16 = k
    · have hq : r = 16 * k + (r - 16 * k) := by omega
      have := (hcol c hc).2 (r - 16 * k) (by omega) (by rw [← hq]; exact h9)
      rw [← hq] at this
      rw [hrk]
      exact this.at fun l hl => eB l hl _
    · exact (hBs r hr ha c hc).at fun l hl => by rw [eB l hl, g3 l _ (by omega) fun c hc => by omega]
  · intro s hs h
    rw [eF 33 (by omega)] at h
    exact absurd h (h33 s hs)


