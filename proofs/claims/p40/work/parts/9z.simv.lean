-- deps: 9y.simu 90.open
/-! another scan -/
theorem vS_n {sh : Sh} {V : CV} {n i : Nat} {x y z w mo cc lv : Int32} {vals al : Nat → Int32} (h : i ≠ 14) (h2 : i < 400 + 20 * sh.S) : vS sh V n x y z w mo cc lv vals al i = V i := by
  rw [vS, if_neg h, if_neg (by omega), if_neg (by omega), if_neg (by omega), if_neg (by omega), if_neg (by omega), if_neg (by omega), if_neg (by omega), if_neg (by omega), if_neg (by omega)]
theorem vS_0 {sh : Sh} {V : CV} {n : Nat} {x y z w mo cc lv : Int32} {vals al : Nat → Int32} : vS sh V n x y z w mo cc lv vals al (400 + 20 * sh.S) = (fun k => if k = 0 then x else if k = 1 then y else if k = 2 then z else if k = 3 then mo else if k = 4 then cc else if k = 10 then -1 else 0) := by rw [vS, if_neg (by omega), if_pos rfl]
theorem vS_1 {sh : Sh} {V : CV} {n : Nat} {x y z w mo cc lv : Int32} {vals al : Nat → Int32} : vS sh V n x y z w mo cc lv vals al (400 + 20 * sh.S + 1) = (fun k => if k = 2 then nI n else if k = 3 then lv else 0) := by rw [vS, if_neg (by omega), if_neg (by omega), if_pos rfl]
theorem vS_2 {sh : Sh} {V : CV} {n : Nat} {x y z w mo cc lv : Int32} {vals al : Nat → Int32} : vS sh V n x y z w mo cc lv vals al (400 + 20 * sh.S + 2) = cpV vals (4 * n) := by rw [vS, if_neg (by omega), if_neg (by omega), if_neg (by omega), if_pos rfl]
theorem vS_3 {sh : Sh} {V : CV} {n : Nat} {x y z w mo cc lv : Int32} {vals al : Nat → Int32} : vS sh V n x y z w mo cc lv vals al (400 + 20 * sh.S + 3) = cpV al n := by rw [vS, if_neg (by omega), if_neg (by omega), if_neg (by omega), if_neg (by omega), if_pos rfl]
theorem vS_4 {sh : Sh} {V : CV} {n : Nat} {x y z w mo cc lv : Int32} {vals al : Nat → Int32} : vS sh V n x y z w mo cc lv vals al (400 + 20 * sh.S + 4) = v0 := by rw [vS, if_neg (by omega), if_neg (by omega), if_neg (by omega), if_neg (by omega), if_neg (by omega), if_pos rfl]
theorem vS_6 {sh : Sh} {V : CV} {n : Nat} {x y z w mo cc lv : Int32} {vals al : Nat → Int32} : vS sh V n x y z w mo cc lv vals al (400 + 20 * sh.S + 6) = (fun k => if k = 2 then w else 0) := by rw [vS, if_neg (by omega), if_neg (by omega), if_neg (by omega), if_neg (by omega), if_neg (by omega), if_neg (by omega), if_neg (by omega), if_pos rfl]
theorem vS_7 {sh : Sh} {V : CV} {n : Nat} {x y z w mo cc lv : Int32} {vals al : Nat → Int32} : vS sh V n x y z w mo cc lv vals al (400 + 20 * sh.S + 7) = v0 := by rw [vS, if_neg (by omega), if_neg (by omega), if_neg (by omega), if_neg (by omega), if_neg (by omega), if_neg (by omega), if_neg (by omega), if_neg (by omega), if_pos rfl]
theorem vS_8 {sh : Sh} {V : CV} {n : Nat} {x y z w mo cc lv : Int32} {vals al : Nat → Int32} : vS sh V n x y z w mo cc lv vals al (400 + 20 * sh.S + 8) = v0 := by rw [vS, if_neg (by omega), if_neg (by omega), if_neg (by omega), if_neg (by omega), if_neg (by omega), if_neg (by omega), if_neg (by omega), if_neg (by omega), if_neg (by omega), if_pos rfl]
theorem sXS_n {sh : Sh} {n m i : Nat} (h : i ≠ 15) (h2 : i < 400 + 20 * sh.S) : (sXS sh n m).N i = sh.N i := by
  show (if _ then _ else _) = _
  rw [if_neg h, if_neg (by omega), if_neg (by omega), if_neg (by omega), if_neg (by omega), if_neg (by omega)]
theorem sXS_2 {sh : Sh} {n m : Nat} : (sXS sh n m).N (400 + 20 * sh.S + 2) = 4 * n := by
  show (if _ then _ else _) = _
  rw [if_neg (by omega), if_pos rfl]
theorem sXS_3 {sh : Sh} {n m : Nat} : (sXS sh n m).N (400 + 20 * sh.S + 3) = n := by
  show (if _ then _ else _) = _
  rw [if_neg (by omega), if_neg (by omega), if_pos rfl]
theorem sXS_5 {sh : Sh} {n m : Nat} : (sXS sh n m).N (400 + 20 * sh.S + 5) = 6 * m := by
  show (if _ then _ else _) = _
  rw [if_neg (by omega), if_neg (by omega), if_neg (by omega), if_pos rfl]
theorem sXS_7 {sh : Sh} {n m : Nat} : (sXS sh n m).N (400 + 20 * sh.S + 7) = 4 := by
  show (if _ then _ else _) = _
  rw [if_neg (by omega), if_neg (by omega), if_neg (by omega), if_neg (by omega), if_pos rfl]
theorem sXS_8 {sh : Sh} {n m : Nat} : (sXS sh n m).N (400 + 20 * sh.S + 8) = 4 := by
  show (if _ then _ else _) = _
  rw [if_neg (by omega), if_neg (by omega), if_neg (by omega), if_neg (by omega), if_neg (by omega), if_pos rfl]
theorem opA_e {cm : CM} {x y z w : Int32} {S : Nat} (e4 : cm 4 0 0 = nI S) (hS : S < 2147483648) : opA cm x y z w 4 0 0 = nI (S + 1) ∧ opA cm x y z w 23 0 S = x ∧ opA cm x y z w 24 0 S = y ∧ opA cm x y z w 25 0 S = z ∧ opA cm x y z w 26 0 S = w ∧ opA cm x y z w 27 0 S = cm 1 0 0 ∧ opA cm x y z w 28 0 S = chN cm ∧ (∀ k i j, j ≠ S → k ≠ 4 → opA cm x y z w k i j = cm k i j) ∧ ∀ k, k ≠ 4 → (k < 23 ∨ 28 < k) → opA cm x y z w k = cm k := by
  rw [opA, e4, nn_nI hS]
  refine ⟨?_, ?_, ?_, ?_, ?_, ?_, ?_, fun k i j h h4 => ?_, fun k h4 h => ?_⟩
  · rw [c3_s, upd_s, show (1 : Int32) = nI 1 from rfl, nI_add]
  · rw [c3_n (by decide), c3_n (by decide), c3_n (by decide), c3_n (by decide), c3_n (by decide), c3_n (by decide), c3_s, upd_s]
  · rw [c3_n (by decide), c3_n (by decide), c3_n (by decide), c3_n (by decide), c3_n (by decide), c3_s, upd_s]
  · rw [c3_n (by decide), c3_n (by decide), c3_n (by decide), c3_n (by decide), c3_s, upd_s]
  · rw [c3_n (by decide), c3_n (by decide), c3_n (by decide), c3_s, upd_s]
  · rw [c3_n (by decide), c3_n (by decide), c3_s, upd_s]
  · rw [c3_n (by decide), c3_s, upd_s]
  · rw [c3_n h4, c3_o h, c3_o h, c3_o h, c3_o h, c3_o h, c3_o h]
  · rw [c3_n h4, c3_n (by omega), c3_n (by omega), c3_n (by omega), c3_n (by omega), c3_n (by omega), c3_n (by omega)]
theorem sumN_cg {a b : Nat → Nat} : ∀ n, (∀ i, i < n → a i = b i) → sumN a n = sumN b n
  | 0, _ => rfl
  | n + 1, h => by rw [sumN, sumN, sumN_cg n fun i hi => h i (by omega), h n (by omega)]
theorem pc10_0 : pc10 0 = 0 := by decide
theorem opn_R {cm : CM} {cl : CL} {sh : Sh} {V : CV} {L : Int64} {M j y0 : Nat} {y z w : Int32} (H : SR cm cl sh V L M) (hS40 : sh.S < 40) (hj : j < sh.F) (hy : y = -1 ∨ ∃ c, c < 4 ∧ y = nI c) (hz : ∃ c, c < 4 ∧ z = nI c) (hw : w = nI y0) (hw1 : 1 ≤ y0) (hw6 : y0 ≤ 6) (hop : sh.S < cntN (fun s => !decide (cm 33 0 s = 0)) sh.S + 4) :
    SR (enC (opA cm (nI j) y z w) sh.S) cl (sXS sh (nn (V 1 2)) (nn (V 1 3))) (opV2 sh V (nn (V 1 2)) (nI j) y z w) L M := by
  obtain ⟨R, G, P, Dn, wr, W, hRd, hP, ⟨m1, m2, m3⟩, ⟨n1, n2, n3, n4, n5⟩, hWt, hFh, hLn, hTc, hBs, hOp, hCl⟩ := H
  have hts := hRd.ts
  have hDS := hRd.D
  obtain ⟨hT, hFR, hFs, hL14, hL4, hCe, hCk, hz17, e5, v8, e4, hS, e45, v10, hDn, hSc⟩ := id hRd
  obtain ⟨hR, hM1, hG, h0, h1, h2, hTL, hTA⟩ := id hT
  have hF30 := hFR.2.1
  have e12 : V 1 2 = nI R := n1.1
  have hcl := cntN_le (fun r => decide (cm 9 0 r = 0)) R
  rw [e12, n3, nn_nI (by omega), nn_nI (by omega)]
  obtain ⟨a4, a23, a24, a25, a26, a27, a28, aj, ak⟩ := opA_e (x := nI j) (y := y) (z := z) (w := w) e4 (by omega)
  rw [chN_nI hR h0] at a28
  rw [h1] at a27
  rw [opV2]
  generalize ec1 : opA cm (nI j) y z w = c1 at *
  generalize eV1 : opV1 sh V R (nI j) y z w = V1 at *
  rw [opV1] at eV1
  have vn : ∀ i, i ≠ 14 → i < 400 + 20 * sh.S → V1 i = V i := fun i h h2 => by rw [← eV1]; exact vS_n h h2
  have v14 : V1 14 2 = nI (sh.S + 1) := by rw [← eV1]; rfl
  have u0 : ∀ k, V1 (400 + 20 * sh.S) k = (if k = 0 then nI j else if k = 1 then y else if k = 2 then z else if k = 3 then V 0 7 else if k = 4 then nI sh.C else if k = 10 then -1 else 0) := fun k => by rw [← eV1, vS_0]
  have u1 : ∀ k, V1 (400 + 20 * sh.S + 1) k = (if k = 2 then nI R else if k = 3 then V 1 3 else 0) := fun k => by rw [← eV1, vS_1]
  have u2 : V1 (400 + 20 * sh.S + 2) = cpV (V 2) (4 * R) := by rw [← eV1, vS_2]
  have u3 : V1 (400 + 20 * sh.S + 3) = cpV (V 3) R := by rw [← eV1, vS_3]
  have u4 : V1 (400 + 20 * sh.S + 4) = v0 := by rw [← eV1, vS_4]
  have u6 : ∀ k, V1 (400 + 20 * sh.S + 6) k = (if k = 2 then w else 0) := fun k => by rw [← eV1, vS_6]
  have u7 : V1 (400 + 20 * sh.S + 7) = v0 := by rw [← eV1, vS_7]
  have u8 : V1 (400 + 20 * sh.S + 8) = v0 := by rw [← eV1, vS_8]
  have z0 : ∀ i, v0 i = 0 := fun _ => rfl
  obtain ⟨f1, f2, f3, f4⟩ := (hFh.2.2 sh.S (Nat.le_refl _) hS40).2
  have f50 := (hFh.2.2 sh.S (Nat.le_refl _) hS40).1
  have e0 : (0 : Int32) = nI 0 := rfl
  -- the new scan ahead of its end
  have D0 : ScD c1 V1 sh.S 0 0 y0 := by
    refine ⟨⟨by omega, by rw [u0]; rfl, fun k hk => ?_, ?_, ?_⟩, 0, fun _ => 0, ⟨⟨fun g h => by omega, fun g h a => by omega, fun g h => by omega, fun g h => by omega, fun g h => by omega⟩, ?_, ?_, Nat.le_refl _, fun g h => by omega, fun g _ => ?_⟩, ⟨⟨fun p hp => ⟨?_, ?_⟩, fun p hp => ⟨?_, ?_, ?_⟩, ?_, ?_, ?_⟩, ⟨fun g h => by omega, fun g _ => ?_⟩, ?_, hw1, hw6, by show 0 + 0 + 0 + 0 ≤ _; omega⟩⟩
    · rw [ak 37 (by decide) (by omega), f3 k hk]; simp
    · rw [ak 29 (by decide) (by omega), f1 29 (by omega) (by omega), pc10_0]; rfl
    · rw [u0, ak 30 (by decide) (by omega), f1 30 (by omega) (by omega)]; rfl
    · rw [ak 34 (by decide) (by omega), f1 34 (by omega) (by omega)]; rfl
    · rw [u4]; rfl
    · rw [ak 39 (by decide) (by omega), ak 40 (by decide) (by omega), ak 41 (by decide) (by omega)]
      exact ⟨(f4 g).1, (f4 g).2.1, (f4 g).2.2.1⟩
    · show V1 (400 + 20 * sh.S + 7) p = _
      rw [u7]; rfl
    · rw [ak 36 (by decide) (by omega), (f2 p hp).2]; rfl
    · show V1 (400 + 20 * sh.S + 8) p = _
      rw [u8, ak 35 (by decide) (by omega), (f2 p hp).1]; rfl
    · rw [ak 35 (by decide) (by omega), (f2 p hp).1]; exact .inl rfl
    · exact fun _ => rfl
    · rw [u6, a26]; rfl
    · rw [u6, ak 31 (by decide) (by omega), f1 31 (by omega) (by omega)]; rfl
    · rw [u6, ak 32 (by decide) (by omega), f1 32 (by omega) (by omega)]; rfl
    · rw [ak 44 (by decide) (by omega)]; exact (f4 g).2.2.2
    · rw [a26, hw]
  obtain ⟨Wf, D', eW, d1, d2, d3, d4, d5, d6, d7, d8, d9, d10⟩ := end_eq (o := (R + 15) / 16) (Dn := Dn) D0 (by omega) a28 (by rw [u0, ← hCe]; rfl) (by omega) (Nat.two_pow_pos _) (by rw [ak 33 (by decide) (by omega), f1 33 (by omega) (by omega)]) (by rw [u0]; rfl) (by rw [ak 45 (by decide) (by omega)]; exact e45) (by rw [vn 0 (by omega) (by omega)]; exact v10) (by omega)
  rw [← eW]
  have hX : FrX sh.S c1 (enC c1 sh.S) := enC_X
  have hXN := hX.N
  have wv : ∀ i, i ≠ 400 + 20 * sh.S → i ≠ 0 → Wf i = V1 i := fun i h h2 => by
    rw [eW]; split
    · exact fiV_n h h2
    · rfl
  have wk : ∀ k, k ≠ 10 → Wf (400 + 20 * sh.S) k = V1 (400 + 20 * sh.S) k := fun k hk => by
    rw [eW]; split
    · exact fiV_k hk
    · rfl
  have hV : ∀ i, i ≠ 14 → i ≠ 0 → i < 400 + 20 * sh.S → Wf i = V i := fun i h h2 h3 => by rw [wv i (by omega) h2, vn i h h3]
  have hV0 : ∀ k, k ≠ 10 → Wf 0 k = V 0 k := fun k hk => by rw [d6 k hk, vn 0 (by omega) (by omega)]
  have hV14 : Wf 14 2 = nI (sh.S + 1) := by rw [wv 14 (by omega) (by omega), v14]
  have c21 : ∀ k, k < 26 ∨ k = 27 ∨ k = 28 ∨ (45 < k ∧ k ≠ 51) → enC c1 sh.S k = c1 k := fun k hk => funext fun i => funext fun q => hX k i q (by rw [own]; omega)
  have eK : ∀ k, k ≠ 4 → k < 23 ∨ (45 < k ∧ k ≠ 51) → enC c1 sh.S k = cm k := fun k h4 hk => by rw [c21 k (by omega), ak k h4 (by omega)]
  have eE : ∀ s, s ≠ sh.S → ScE s cm (enC c1 sh.S) := by
    intro s hs k i q hk
    rw [hX k i q (by rw [own]; rw [scn] at hk; omega)]
    by_cases hk28 : k ≤ 28
    · exact aj k i q (by rw [scn] at hk; omega) (by rw [scn] at hk; omega)
    · rw [ak k (by omega) (by omega)]
  have hE : TmE cm (enC c1 sh.S) R M := TmE.of fun k hk => eK k (by omega) (by omega)
  have hbd : ∀ a x, BdI cm a x → BdI (enC c1 sh.S) a x := fun a x => BdI.ck fun k hk => eK k (by omega) (by omega)
  have hN : ∀ m i, i ≠ 15 → i < 400 + 20 * sh.S → (sXS sh R m).N i = sh.N i := fun m i h h2 => sXS_n h h2
  have eN : ∀ k, 23 ≤ k → k ≤ 28 → k ≠ 26 → enC c1 sh.S k 0 sh.S = c1 k 0 sh.S := fun k h1 h2 h3 => by rw [c21 k (by omega)]
  generalize hm : cntN (fun r => decide (cm 9 0 r = 0)) R = m at *
  have hsco := scans_ok (cm' := enC c1 sh.S) (sh' := sXS sh R m) (W := Wf) (R' := R) (M' := M) (S := sh.S) hRd hCl (Nat.le_refl _) (fun s hs => eE s (by omega)) hE (fun k j h1 h2 h3 => by rw [eK k (by omega) (by omega)]) (Nat.le_refl _) (Nat.le_refl _) (fun q t a b => by omega) (fun i a b => hV i (by omega) (by omega) b) (Nat.le_refl _) (fun i a b => hN m i (by omega) b)
  have hPo : sh.S + 1 ≤ D' + 4 := by rw [← hDn] at hop; omega
  obtain ⟨⟨l1, l2, l3, l4⟩, g2, g3, g4⟩ := hFs
  obtain ⟨q1, q2, q3, q4⟩ := hL14
  have q3' : sh.S ≤ sh.N 15 := q3
  have hg := alG_le q3' (by omega) q4
  have e15 : (sXS sh R m).N 15 = alG sh.S (sh.N 15) := rfl
  have hDC : D' = cntN (fun s => !decide (enC c1 sh.S 33 0 s = 0)) (sh.S + 1) := by
    rw [cntN, cntN_cg (q := fun s => !decide (cm 33 0 s = 0)) sh.S fun s hs => by rw [eE s (by omega) 33 0 s (by rw [scn]; omega)], ← hDn]
    by_cases hp : pc10 0 = (R + 15) / 16
    · rw [d10.mpr hp, decide_eq_false (fun h => d9.mp h hp)]; rfl
    · rw [decide_eq_true (d9.mpr hp)]
      show D' = Dn + 0
      have : ¬ D' = Dn + 1 := fun h => hp (d10.mp h)
      omega
  have halv : ∀ r, r < R → aliveM (enC c1 sh.S) r (nI M) = decide (cm 9 0 r = 0) := fun r hr => by rw [(hE r M hr (Nat.le_refl _)).2, alive_M hT hr]
  have hnew : ScG (enC c1 sh.S) (sXS sh R m) Wf R M sh.S D' := by
    refine ⟨j, R, M, 0, y0, ⟨hj, ?_, ?_, ?_, ?_, ?_, ?_, ?_, ?_, ?_, ?_, Nat.le_refl _, ?_, fun r h1 h2 => by omega, ?_, ?_⟩, Nat.le_refl _, Nat.two_pow_pos _, ?_, d8, d9⟩
    · rw [wk 0 (by decide), u0]; rfl
    · rw [eN 23 (by omega) (by omega) (by omega)]; exact a23
    · rw [wk 1 (by decide), u0, eN 24 (by omega) (by omega) (by omega), a24]; rfl
    · rw [eN 24 (by omega) (by omega) (by omega), a24]; exact hy
    · rw [wk 2 (by decide), u0, eN 25 (by omega) (by omega) (by omega), a25]; rfl
    · rw [eN 25 (by omega) (by omega) (by omega), a25]; exact hz
    · rw [wk 3 (by decide), u0]; exact m1
    · rw [eN 27 (by omega) (by omega) (by omega)]; exact a27
    · rw [wk 4 (by decide), u0, ← hCe]; rfl
    · rw [eN 28 (by omega) (by omega) (by omega)]; exact a28
    · obtain ⟨w1, w2, w3, w4, w5, w6, w7⟩ := n1
      refine ⟨?_, ?_, ?_, ?_, fun r c hr hc => ?_, fun r hr => ?_, fun r ha hb => ?_⟩
      · rw [wv _ (by omega) (by omega), u1]; rfl
      · show R ≤ (sXS sh R m).N (400 + 20 * sh.S + 3)
        rw [sXS_3]; exact Nat.le_refl _
      · show (sXS sh R m).N (400 + 20 * sh.S + 2) = 4 * (sXS sh R m).N (400 + 20 * sh.S + 3)
        rw [sXS_2, sXS_3]
      · show (sXS sh R m).N (400 + 20 * sh.S + 3) ≤ 160
        rw [sXS_3]; exact hR
      · show Wf (400 + 20 * sh.S + 2) _ = _
        rw [wv _ (by omega) (by omega), u2, cpV, if_pos (by omega), (hE r M hr (Nat.le_refl _)).1 c hc]
        exact w5 r c hr hc
      · show Wf (400 + 20 * sh.S + 3) _ = _
        rw [wv _ (by omega) (by omega), u3, cpV, if_pos hr, (hE r M hr (Nat.le_refl _)).2]
        exact w6 r hr
      · have hb' : r < (sXS sh R m).N (400 + 20 * sh.S + 3) := hb
        rw [sXS_3] at hb'
        omega
    · rw [sXS_5, ← hm]
      congr 1
      exact cntN_cg R fun r hr => (halv r hr).symm
    · exact ⟨sXS_7, sXS_8⟩
    · have : pas 0 (fun r => aliveM (enC c1 sh.S) r (nI M)) R = 0 := cntN_0 R fun r _ => by simp
      rw [this]
      exact d7
  have hclS : ClG (enC c1 sh.S) sh.S R := by
    obtain ⟨⟨-, -, x3, -, -⟩, n, h, gk, -⟩ := d7
    have hn0 : n = 0 := by have := gk.2.2.2.1; omega
    subst hn0
    refine ⟨0, by omega, gk.2.1, fun g h => by omega, fun r hr hs => ?_, fun g h => by omega⟩
    rw [selT, x3 (r / 16) (by omega)] at hs
    simp at hs
  refine ⟨R, G, P, D', wr, W, ⟨hT.ck fun k hk => eK k (by omega) (by omega), ?_, ⟨⟨l1, ?_, ?_, ?_⟩, ?_, ?_, g4⟩, ⟨q1, ?_, ?_, ?_⟩, ?_, hCe, fun k hk => ?_, fun k ha hb x hx => ?_, ?_, ?_, ?_, by show sh.S + 1 ≤ 40; omega, d3, d4, hDC, fun s hs => ?_⟩, ⟨hP.1, hP.2.1, hPo⟩, ⟨?_, ?_, fun x hx => ?_⟩, ⟨?_, by rw [hN m 3 (by omega) (by omega)]; exact n2, ?_, by rw [hN m 17 (by omega) (by omega)]; exact n4, by rw [hN m 18 (by omega) (by omega)]; exact n5⟩, ?_, ⟨?_, fun k ha hb => ⟨?_, fun x hx => ?_⟩, fun s ha hb => ⟨?_, ?_⟩⟩, ?_, ?_, ?_, ?_, fun s hs => ?_⟩
  · exact (hFR.cm fun k hk => eK k (by omega) (by omega)).cg fun i h1 h2 => hV i (by omega) (by omega) (by omega)
  · rw [hV 7 (by omega) (by omega) (by omega)]; exact l2
  · rw [hN m 8 (by omega) (by omega)]; exact l3
  · rw [hN m 8 (by omega) (by omega)]; exact l4
  · rw [hN m 9 (by omega) (by omega)]; exact g2
  · rw [BdOk, hN m _ (by omega) (by omega), hN m _ (by omega) (by omega), hN m _ (by omega) (by omega)]; exact g3
  · rw [hV14]; rfl
  · show sh.S + 1 ≤ (sXS sh R m).N 15
    rw [e15]; omega
  · show (sXS sh R m).N 15 ≤ 1000
    rw [e15]; omega
  · exact LsOk_sh (sh := sh) (sh' := sXS sh R m) (hV 4 (by omega) (by omega) (by omega)) (show sh.C = sh.C from rfl) (hN m 5 (by omega) (by omega)) hL4
  · have hk' : k < sh.C := hk
    have hc := ((hCk k hk').cg (W := Wf) fun i h1 h2 => hV i (by omega) (by omega) (by omega)).shc (sh' := sXS sh R m) fun i h1 h2 => hN m i (by omega) (by omega)
    rw [CkS] at hc ⊢
    simp only [BdS1, bv, eK 7 (by omega) (by omega), eK 14 (by omega) (by omega), eK 15 (by omega) (by omega), eK 16 (by omega) (by omega), eK 17 (by omega) (by omega), eK 18 (by omega) (by omega)] at hc ⊢
    exact hc
  · rw [eK 17 (by omega) (by omega)]; exact hz17 k ha hb x hx
  · rw [eK 5 (by omega) (by omega)]; exact e5
  · rw [hV0 8 (by decide)]; exact v8
  · rw [c21 4 (by omega)]; exact a4
  · have hs' : s < sh.S + 1 := hs
    by_cases hsS : s = sh.S
    · subst hsS; exact hnew
    · exact (hsco s (by omega)).1.sce (fun _ _ _ _ => rfl) TmE.rfl (Nat.le_refl _) (Nat.le_refl _) (fun r t a b => by omega) (fun _ _ _ => rfl) (Nat.le_refl _) (fun _ _ _ => rfl) d1
  · rw [hV0 7 (by decide)]; exact m1
  · rw [hV0 6 (by decide)]; exact m2
  · rw [hV 18 (by omega) (by omega) (by omega)]; exact m3 x hx
  · exact n1.ce hE (Nat.le_refl _) (Nat.le_refl _) (hV 1 (by omega) (by omega) (by omega)) (hV 2 (by omega) (by omega) (by omega)) (hV 3 (by omega) (by omega) (by omega)) (hN m 2 (by omega) (by omega)) (hN m 3 (by omega) (by omega))
  · rw [hV 1 (by omega) (by omega) (by omega), eK 9 (by omega) (by omega), hm]; exact n3
  · exact hWt.ck fun k hk => eK k (by omega) (by omega)
  · rw [BOk, eK 7 (by omega) (by omega)]; exact hFh.1
  · rw [eK 16 (by omega) (by omega)]; exact (hFh.2.1 k ha hb).1
  · rw [eK 18 (by omega) (by omega)]; exact (hFh.2.1 k ha hb).2 x hx
  · have ha' : sh.S + 1 ≤ s := ha
    rw [eK 50 (by omega) (by omega)]; exact (hFh.2.2 s (by omega) hb).1
  · have ha' : sh.S + 1 ≤ s := ha
    obtain ⟨p1, p2, p3, p4⟩ := (hFh.2.2 s (by omega) hb).2
    have eE := eE s (by omega)
    refine ⟨fun k h1 h2 => by rw [eE k 0 s (by rw [scn]; omega)]; exact p1 k h1 h2, fun p hp => by rw [eE 35 0 _ (by rw [scn]; omega), eE 36 0 _ (by rw [scn]; omega)]; exact p2 p hp, fun k hk => by rw [eE 37 0 _ (by rw [scn]; omega)]; exact p3 k hk, fun g => by rw [eE 39 s g (by rw [scn]; omega), eE 40 s g (by rw [scn]; omega), eE 41 s g (by rw [scn]; omega), eE 44 s g (by rw [scn]; omega)]; exact p4 g⟩
  · obtain ⟨b1, a, b, b2, b3, b4⟩ := hLn
    have key : ∀ f : Nat → Nat, sumN (fun s => if s < sh.S then f s else 0) (sh.S + 1) = sumN f sh.S := fun f => by
      rw [sumN, if_neg (by omega), Nat.add_zero]
      exact sumN_cg _ fun i hi => if_pos hi
    refine ⟨b1, fun s => if s < sh.S then a s else 0, fun s => if s < sh.S then b s else 0, fun s hs => ?_, ?_, ?_⟩
    · have hs' : s < sh.S + 1 := hs
      by_cases hsS : s < sh.S
      · simp only [if_pos hsS]
        rw [eE s (by omega) 29 0 s (by rw [scn]; omega), eE s (by omega) 30 0 s (by rw [scn]; omega)]
        exact b2 s hsS
      · have : s = sh.S := by omega
        subst this
        simp only [if_neg hsS]
        obtain ⟨⟨-, -, -, x4, x5⟩, -⟩ := d7
        refine ⟨by rw [x4, pc10_0], ?_, Nat.le_refl _, by omega⟩
        rw [← x5, wk 9 (by decide), u0]; rfl
    · show cl 47 = Int64.ofNat (sumN _ (sh.S + 1))
      rw [key, b3]
    · show cl 48 = Int64.ofNat (sumN _ (sh.S + 1))
      rw [key, b4]
  · intro s hs
    have hs' : s < sh.S + 1 := hs
    by_cases hsS : s = sh.S
    · subst hsS
      refine ⟨M, Nat.le_refl _, by rw [eN 27 (by omega) (by omega) (by omega)]; exact a27, by rw [eK 50 (by omega) (by omega), f50]; exact .inl rfl, ?_⟩
      rw [eK 50 (by omega) (by omega), f50]
      exact ⟨fun _ => ⟨hWt.1, fun c hc _ => hWt.2.1 c hc⟩, fun _ => rfl⟩
    · obtain ⟨ts, t1, t2, t3, t4⟩ := hTc s (by omega)
      have eE := eE s hsS
      refine ⟨ts, t1, by rw [eE 27 0 s (by rw [scn]; omega)]; exact t2, by rw [eK 50 (by omega) (by omega)]; exact t3, ?_⟩
      rw [eK 50 (by omega) (by omega), t4]
      have tB : ∀ x, tchB (enC c1 sh.S) x s = tchB cm x s := fun x => by
        rw [tchB, tchB, eE 24 0 s (by rw [scn]; omega), eE 25 0 s (by rw [scn]; omega), eE 23 0 s (by rw [scn]; omega), about_ck fun k hk => eK k (by omega) (by omega)]
      simp only [tB]
  · exact hBs.mono (fun r hr ha => ⟨by rw [← (hE r M hr (Nat.le_refl _)).2]; exact ha, (hE r M hr (Nat.le_refl _)).1⟩) hbd
  · intro s hs h33 ts hts' h27
    have hs' : s < sh.S + 1 := hs
    have hmo : BsS (enC c1 sh.S) R M := hBs.mono (fun r hr ha => ⟨by rw [← (hE r M hr (Nat.le_refl _)).2]; exact ha, (hE r M hr (Nat.le_refl _)).1⟩) hbd
    by_cases hsS : s = sh.S
    · subst hsS
      rw [eN 27 (by omega) (by omega) (by omega), a27] at h27
      have : M = ts := nI_i h27 (by omega) (by omega)
      subst this
      exact hmo
    · have eE := eE s hsS
      rw [eE 33 0 s (by rw [scn]; omega)] at h33
      rw [eE 27 0 s (by rw [scn]; omega)] at h27
      refine (hOp s (by omega) h33 ts hts' h27).mono (fun r hr ha => ?_) hbd
      rw [(hE r ts hr hts').2] at ha
      exact ⟨ha, (hE r ts hr hts').1⟩
  · have hs' : s < sh.S + 1 := hs
    by_cases hsS : s = sh.S
    · subst hsS; exact hclS
    · exact (hsco s (by omega)).2


