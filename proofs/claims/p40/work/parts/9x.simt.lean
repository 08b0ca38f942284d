-- deps: 9w.sims
/-! a row is removed -/
theorem rmC_e {cm : CM} {r : Nat} : (∀ k, k ≠ 1 → k ≠ 9 → k ≠ 16 → k ≠ 50 → rmC cm r k = cm k) ∧ rmC cm r 1 0 0 = cm 1 0 0 + 1 ∧ rmC cm r 9 0 = upd (cm 9 0) r (cm 1 0 0 + 1) ∧ rmC cm r 16 0 = upd (cm 16 0) (r / 16) (cm 16 0 (r / 16) + 1) ∧ (∀ s, s < nn (cm 4 0 0) → rmC cm r 50 0 s = cm 50 0 s ||| b2i true) ∧ ∀ s, nn (cm 4 0 0) ≤ s → rmC cm r 50 0 s = cm 50 0 s := by
  refine ⟨fun k h1 h2 h3 h4 => ?_, ?_, ?_, ?_, fun s hs => ?_, fun s hs => ?_⟩
  · rw [rmC, tchC_n h4, c3_n h3, c3_n h2, c3_n h1]
  · rw [rmC, tchC_n (by decide), c3_n (by decide), c3_n (by decide), c3_s, upd_s]
  · rw [rmC, tchC_n (by decide), c3_n (by decide), c3_s, c3_n (by decide)]
  · rw [rmC, tchC_n (by decide), c3_s, c3_n (by decide), c3_n (by decide)]
  · rw [rmC, tchC]
    have e4 : c3 (c3 (c3 cm 1 0 0 (cm 1 0 0 + 1)) 9 0 r (cm 1 0 0 + 1)) 16 0 (r / 16) (cm 16 0 (r / 16) + 1) 4 0 0 = cm 4 0 0 := by rw [c3_n (by decide), c3_n (by decide), c3_n (by decide)]
    rw [e4, rowU_lt hs, tchF, c3_n (by decide), c3_n (by decide), c3_n (by decide), tchB]
    rfl
  · rw [rmC, tchC]
    have e4 : c3 (c3 (c3 cm 1 0 0 (cm 1 0 0 + 1)) 9 0 r (cm 1 0 0 + 1)) 16 0 (r / 16) (cm 16 0 (r / 16) + 1) 4 0 0 = cm 4 0 0 := by rw [c3_n (by decide), c3_n (by decide), c3_n (by decide)]
    rw [e4, rowU_ge hs, c3_n (by decide), c3_n (by decide), c3_n (by decide)]
theorem nI_nz {n : Nat} (h : 0 < n) (h2 : n < 2147483648) : ¬ nI n = 0 := fun e => by
  have := nI_i (b := 0) e h2 (by omega)
  omega
theorem rem_R {cm : CM} {cl : CL} {sh : Sh} {V : CV} {L : Int64} {M r : Nat} (H : SR cm cl sh V L M) (hM : M < 1000) (hr : r < nn (V 1 2)) (h9 : cm 9 0 r = 0) : SR (rmC cm r) cl sh (rmV sh V (100 + 10 * (r / 16)) r) L (M + 1) ∧ ∃ n, n ≤ 160 ∧ rmV sh V (100 + 10 * (r / 16)) r 1 3 = nI n ∧ sumI (lvF (rmC cm r)) (nn (cm 0 0 0)) = nI n := by
  obtain ⟨R, G, P, Dn, w, W, hRd, hP, ⟨m1, m2, m3⟩, ⟨n1, n2, n3, n4, n5⟩, hWt, hFh, hLn, hTc, hBs, hOp, hCl⟩ := H
  have hts := hRd.ts
  obtain ⟨hT, hF, hFs, hL14, hL4, hCe, hCk, hz, e5, v8, e4, hS, e45, v10, hDn, hSc⟩ := id hRd
  obtain ⟨hR, hM1, hG, h0, h1, h2, hTL, hTA⟩ := id hT
  have hrR : r < R := by rw [n1.1, nn_nI (by omega)] at hr; exact hr
  have hF30 := hF.2.1
  obtain ⟨s1, s1', s9, s3, s4, s5⟩ := @rmC_e cm r
  rw [e4, nn_nI (by omega)] at s4 s5
  rw [h1, show (1 : Int32) = nI 1 from rfl, nI_add] at s1' s9
  have hAl : rAl sh V 1 r = true := by rw [n1.al, decide_eq_true hrR, alive_M hT hrR, h9]; rfl
  have hV : ∀ i, i ≠ 1 → i ≠ 3 → i ≠ 0 → i ≠ 100 + 10 * (r / 16) → rmV sh V (100 + 10 * (r / 16)) r i = V i := by
    intro i h1 h2 h3 h4
    rw [rmV, c2_n _ _ _ h3, c2_n _ _ _ h3, c2_n _ _ _ h4, rKill, if_pos hAl, c2_n _ _ _ h1, c2_n _ _ _ h2]
  have hV1 : ∀ k, k ≠ 3 → rmV sh V (100 + 10 * (r / 16)) r 1 k = V 1 k := by
    intro k hk
    rw [rmV, c2_n _ _ _ (by omega), c2_n _ _ _ (by omega), c2_n _ _ _ (by omega), rKill, if_pos hAl, c2_o (by omega), c2_n _ _ _ (by omega)]
  have hV13 : rmV sh V (100 + 10 * (r / 16)) r 1 3 = V 1 3 - 1 := by
    rw [rmV, c2_n _ _ _ (by omega), c2_n _ _ _ (by omega), c2_n _ _ _ (by omega), rKill, if_pos hAl, c2_e]
  have hV3 : rmV sh V (100 + 10 * (r / 16)) r 3 = upd (V 3) r 0 := by
    rw [rmV, c2_n _ _ _ (by omega), c2_n _ _ _ (by omega), c2_n _ _ _ (by omega), rKill, if_pos hAl, c2_n _ _ _ (by omega), c2_s]
  have hVk : ∀ k, k ≠ 4 → rmV sh V (100 + 10 * (r / 16)) r (100 + 10 * (r / 16)) k = V (100 + 10 * (r / 16)) k := by
    intro k hk
    rw [rmV, c2_n _ _ _ (by omega), c2_n _ _ _ (by omega), c2_o (by omega), rKill_n (by omega) (by omega)]
  have hV4 : rmV sh V (100 + 10 * (r / 16)) r (100 + 10 * (r / 16)) 4 = V (100 + 10 * (r / 16)) 4 + 1 := by
    rw [rmV, c2_n _ _ _ (by omega), c2_n _ _ _ (by omega), c2_e]
  have hV0 : ∀ k, k ≠ 7 → k ≠ 6 → rmV sh V (100 + 10 * (r / 16)) r 0 k = V 0 k := by
    intro k hk hk6
    rw [rmV, c2_o (by omega), c2_o (by omega), c2_n _ _ _ (by omega), rKill_n (by omega) (by omega)]
  have hV7 : rmV sh V (100 + 10 * (r / 16)) r 0 7 = V 0 7 + 1 := by rw [rmV, c2_o (by omega), c2_e]
  have hV6 : rmV sh V (100 + 10 * (r / 16)) r 0 6 = V 0 7 + 1 := by rw [rmV, c2_e]
  generalize rmV sh V (100 + 10 * (r / 16)) r = V' at *
  generalize rmC cm r = cm' at *
  have eF : ∀ k, k = 0 ∨ (2 ≤ k ∧ k ≤ 8) ∨ (10 ≤ k ∧ k ≤ 15) ∨ (17 ≤ k ∧ k ≤ 45) ∨ k = 51 → cm' k = cm k := fun k hk => s1 k (by omega) (by omega) (by omega) (by omega)
  clear s1
  obtain ⟨⟨a8, ha8, ea8⟩, -, hvl⟩ := hTA r hrR
  have hT' : TmR cm' R (M + 1) G := by
    refine ⟨hR, by omega, by omega, by rw [eF 0 (by omega)]; exact h0, s1', by rw [eF 2 (by omega)]; exact h2, fun k hk => ?_, fun q hq => ?_⟩
    · rw [eF 13 (by omega), eF 12 (by omega), eF 10 (by omega)]
      obtain ⟨⟨a, p1, p2⟩, p3⟩ := hTL k hk
      exact ⟨⟨a, by omega, p2⟩, p3⟩
    · rw [eF 8 (by omega), eF 6 (by omega), s9]
      obtain ⟨⟨a, p1, p2⟩, ⟨b, p3, p4⟩, p5⟩ := hTA q hq
      refine ⟨⟨a, by omega, p2⟩, ?_, p5⟩
      by_cases hqr : q = r
      · rw [hqr, upd_s]; exact ⟨M + 1, Nat.le_refl _, rfl⟩
      · rw [upd_n _ _ hqr]; exact ⟨b, by omega, p4⟩
  have hlk : ∀ q k t, lk cm' q k t = lk cm q k t := by
    intro q k t
    rw [lk, lk, eF 2 (by omega)]
    exact lkup_cg (by rw [eF 6 (by omega)]) _ fun x _ => ⟨by rw [eF 10 (by omega)], by rw [eF 11 (by omega)], by rw [eF 12 (by omega)], by rw [eF 13 (by omega)]⟩
  have hal : ∀ q t, t ≤ M → aliveM cm' q (nI t) = aliveM cm q (nI t) := by
    intro q t ht
    rw [aliveM, aliveM, eF 8 (by omega), s9]
    by_cases hqr : q = r
    · subst hqr
      rw [upd_s, h9, decide_eq_true (show (0 : Int32) = 0 from rfl), decide_eq_false (nI_nz (Nat.succ_pos M) (by omega)), Bool.true_or, Bool.false_or]
      rw [decide_eq_false (show ¬ nI (M + 1) ≤ nI t from fun h => by have := (nI_leq (by omega) (by omega)).mp h; omega)]
      rfl
    · rw [upd_n _ _ hqr]
  have hE : TmE cm cm' R M := fun q t hq ht => ⟨fun k _ => hlk q k _, hal q t ht⟩
  have hF' : FR cm' sh V' := (hF.cm fun k hk => eF k (by omega)).cg fun i h1 h2 => hV i (by omega) (by omega) (by omega) (by omega)
  have hbd : ∀ a x, BdI cm a x → BdI cm' a x := by
    intro a x hx
    rw [BdI] at hx ⊢
    rw [eF 14 (by omega), eF 15 (by omega), eF 17 (by omega), eF 18 (by omega)]
    exact hx
  have hsco := scans_ok (cm' := cm') (sh' := sh) (W := V') (R' := R) (M' := M + 1) (S := sh.S) hRd hCl (Nat.le_refl _) (fun s _ => ScE.of fun k hk => eF k (by omega)) hE (fun k j h1 h2 _ => by rw [eF k (by omega)]) (Nat.le_refl _) (by omega) (fun q t a b => by omega) (fun i a b => hV i (by omega) (by omega) (by omega) (by omega)) (Nat.le_refl _) (fun _ _ _ => rfl)
  -- how many are alive
  have hcnt : cntN (fun q => decide (cm 9 0 q = 0)) R = cntN (fun q => decide (cm' 9 0 q = 0)) R + 1 := by
    have := cnt_one (p := fun q => decide (cm' 9 0 q = 0)) (q := fun q => decide (cm 9 0 q = 0)) (k := r) (decide_eq_false (by rw [s9, upd_s]; exact nI_nz (Nat.succ_pos M) (by omega))) (decide_eq_true h9) (fun i hi => by rw [s9, upd_n _ _ hi]) R
    rw [if_pos hrR] at this
    exact this
  have hle := cntN_le (fun q => decide (cm 9 0 q = 0)) R
  have hsum : ∀ m, m ≤ 160 → sumI (lvF cm') m = nI (cntN (fun q => decide (cm' 9 0 q = 0)) m) := by
    intro m
    induction m with
    | zero => intro _; rfl
    | succ m ih =>
      intro hm
      rw [sumI, cntN, ih (by omega), lvF]
      by_cases h : cm' 9 0 m = 0
      · rw [if_pos h, decide_eq_true h, if_pos rfl, show (1 : Int32) = nI 1 from rfl, nI_add]
      · rw [if_neg h, decide_eq_false h, if_neg (by decide), Int32.add_zero, Nat.add_zero]
  refine ⟨⟨R, G, P, Dn, M + 1, W, ⟨hT', hF', ?_, ?_, ?_, hCe, fun k hk => ?_, fun k ha hb x hx => ?_, ?_, ?_, ?_, hS, ?_, ?_, ?_, fun s hs => (hsco s hs).1⟩, hP, ⟨?_, ?_, fun x hx => ?_⟩, ⟨?_, n2, ?_, n4, n5⟩, ⟨Nat.le_refl _, fun x hx => ?_, fun k hk => ?_, fun q hq => ⟨?_, ?_⟩⟩, ⟨?_, fun k ha hb => ⟨?_, fun x hx => ?_⟩, fun s ha hb => ⟨?_, ?_⟩⟩, ?_, ?_, ?_, ?_, fun s hs => (hsco s hs).2⟩, cntN (fun q => decide (cm' 9 0 q = 0)) R, by omega, ?_, ?_⟩
  · exact FsOk_cg (hV 7 (by omega) (by omega) (by omega) (by omega)) hFs
  · exact LsOk_cgv (hV 14 (by omega) (by omega) (by omega) (by omega)) hL14
  · exact LsOk_cgv (hV 4 (by omega) (by omega) (by omega) (by omega)) hL4
  · obtain ⟨c1, c2', c3', c4, c5, c6, c7⟩ := hCk k hk
    have eb : ∀ x i, bv cm' k x i = bv cm k x i := fun x i => by rw [bv, bv, eF 7 (by omega)]
    refine ⟨?_, ?_, ?_, c4, c5, fun x hx => (c6 x hx).ck (fun l hl => by rw [eF l (by omega)]) (by rw [hV _ (by omega) (by omega) (by omega) (by omega)]) (by rw [hV _ (by omega) (by omega) (by omega) (by omega)]) (by rw [hV _ (by omega) (by omega) (by omega) (by omega)]), fun i hi x hx => ?_⟩
    · by_cases hkr : k = r / 16
      · rw [hkr, hVk 0 (by decide), ← hkr]; exact c1
      · rw [hV _ (by omega) (by omega) (by omega) (by omega)]; exact c1
    · by_cases hkr : k = r / 16
      · rw [hkr, hVk 3 (by decide), ← hkr]; exact c2'
      · rw [hV _ (by omega) (by omega) (by omega) (by omega)]; exact c2'
    · by_cases hkr : k = r / 16
      · rw [hkr, hV4, s3, upd_s, ← hkr, c3']
      · rw [hV _ (by omega) (by omega) (by omega) (by omega), s3, upd_n _ _ hkr]; exact c3'
    · rw [eb, hV _ (by omega) (by omega) (by omega) (by omega)]
      exact c7 i hi x hx
  · rw [eF 17 (by omega)]; exact hz k ha hb x hx
  · rw [eF 5 (by omega)]; exact e5
  · rw [hV0 8 (by decide) (by decide)]; exact v8
  · rw [eF 4 (by omega)]; exact e4
  · rw [eF 45 (by omega)]; exact e45
  · rw [hV0 10 (by decide) (by decide)]; exact v10
  · rw [eF 33 (by omega)]; exact hDn
  · rw [hV7, m1, show (1 : Int32) = nI 1 from rfl, nI_add]
  · rw [hV6, m1, show (1 : Int32) = nI 1 from rfl, nI_add]
  · rw [hV 18 (by omega) (by omega) (by omega) (by omega)]; exact m3 x hx
  · obtain ⟨w1, w2, w3, w4, w5, w6, w7⟩ := n1
    refine ⟨by rw [hV1 2 (by decide)]; exact w1, w2, w3, w4, fun q k hq hk => ?_, fun q hq => ?_, fun q ha hb => ?_⟩
    · show V' 2 _ = _
      rw [hlk, lk_M hT (Nat.le_refl _) (Nat.le_succ _) (by omega) (by omega), hV 2 (by omega) (by omega) (by omega) (by omega)]
      exact w5 q k hq hk
    · show V' 3 _ = _
      rw [alive_M hT' hq, hV3, s9]
      by_cases hqr : q = r
      · rw [hqr, upd_s, upd_s, decide_eq_false (nI_nz (Nat.succ_pos M) (by omega))]; rfl
      · rw [upd_n _ _ hqr, upd_n _ _ hqr, ← alive_M hT hq]
        exact w6 q hq
    · show V' 3 _ = _
      rw [hV3, upd_n _ _ (by omega)]
      exact w7 q ha hb
  · rw [hV13, n3, hcnt, nI_m1 (by omega), Nat.add_sub_cancel]
  · have := hWt.2.1 x hx; omega
  · rw [eF 11 (by omega), eF 13 (by omega)]; exact hWt.2.2.1 k hk
  · obtain ⟨⟨a, p1, p2⟩, -⟩ := hTA q hq
    rw [eF 8 (by omega)]; exact ⟨a, by omega, p2⟩
  · rw [s9]
    by_cases hqr : q = r
    · rw [hqr, upd_s]; exact ⟨M + 1, Nat.le_refl _, rfl⟩
    · obtain ⟨-, ⟨b, p1, p2⟩, -⟩ := hTA q hq
      rw [upd_n _ _ hqr]; exact ⟨b, by omega, p2⟩
  · rw [BOk, eF 7 (by omega)]; exact hFh.1
  · rw [s3, upd_n _ _ (by omega)]; exact (hFh.2.1 k ha hb).1
  · rw [eF 18 (by omega)]; exact (hFh.2.1 k ha hb).2 x hx
  · rw [s5 s ha]; exact (hFh.2.2 s ha hb).1
  · exact (hFh.2.2 s ha hb).2.ck fun k hk i j => by rw [eF k (by omega)]
  · exact hLn.ck fun s hs => ⟨by rw [eF 29 (by omega)], by rw [eF 30 (by omega)]⟩
  · intro s hs
    obtain ⟨ts, t1, t2, t3, t4⟩ := hTc s hs
    obtain ⟨o1, o2⟩ := or_b01 t3 true
    refine ⟨ts, by omega, by rw [eF 27 (by omega)]; exact t2, by rw [s4 s hs]; exact o1, ?_⟩
    rw [s4 s hs, o2]
    exact ⟨fun h => Bool.noConfusion h.2, fun h => by omega⟩
  · intro q hq ha k hk
    rw [hlk, lk_M hT (Nat.le_refl _) (Nat.le_succ _) (by omega) (by omega)]
    refine hbd _ _ (hBs q hq ?_ k hk)
    rw [alive_M hT' hq, s9] at ha
    rw [alive_M hT hq]
    by_cases hqr : q = r
    · rw [hqr, h9]; rfl
    · rw [upd_n _ _ hqr] at ha; exact ha
  · exact hOp.mono hE (fun s _ h => by rw [eF 33 (by omega)] at h; exact h) (fun s _ => by rw [eF 27 (by omega)]) hts (by omega) (by omega) hbd
  · rw [hV13, n3, hcnt, nI_m1 (by omega), Nat.add_sub_cancel]
  · rw [h0, nn_nI (by omega)]; exact hsum R hR


