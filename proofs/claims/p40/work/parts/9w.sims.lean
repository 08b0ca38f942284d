-- deps: 9v.simr
/-! a value is written -/
theorem setC_e {cm : CM} {r c : Nat} {v : Int32} : (∀ k, k ≠ 14 → k ≠ 15 → k ≠ 16 → k ≠ 17 → k ≠ 18 → k ≠ 50 → setC cm r c v k = wrC cm r c v k) ∧ (∀ k, 14 ≤ k → k ≤ 18 → k ≠ 16 → ∀ a, setC cm r c v k 0 a = wdC cm r c v k 0 a) ∧ setC cm r c v 16 0 = upd (cm 16 0) (r / 16) (cm 16 0 (r / 16) + 1) ∧ (∀ s, s < nn (cm 4 0 0) → setC cm r c v 50 0 s = cm 50 0 s ||| b2i (tchB cm (nI c) s)) ∧ ∀ s, nn (cm 4 0 0) ≤ s → setC cm r c v 50 0 s = cm 50 0 s := by
  have w := @wrC_n cm r c v
  generalize hX : wrC cm r c v = X at w
  have hwd : ∀ k, 14 ≤ k → k ≤ 18 → k ≠ 16 → ∀ a, wdC X r c v k 0 a = wdC cm r c v k 0 a := by
    intro k h1 h2 h3 a
    have e : ∀ l, 14 ≤ l → l ≤ 18 → X l = cm l := fun l a b => w (by omega) (by omega) (by omega) (by omega) (by omega) (by omega)
    by_cases ha : a = 4 * (r / 16) + c
    · subst ha
      by_cases h5 : v = 5000
      · subst h5
        obtain ⟨p1, p2⟩ := @wdC_5 X r c
        obtain ⟨q1, q2⟩ := @wdC_5 cm r c
        by_cases hk : k = 18
        · subst hk; rw [p1, q1]
        · rw [p2 k hk, q2 k hk, e k h1 h2]
      · obtain ⟨p1, p2, p3, p4⟩ := @wdC_v X r c v h5
        obtain ⟨q1, q2, q3, q4⟩ := @wdC_v cm r c v h5
        rcases (show k = 14 ∨ k = 15 ∨ k = 17 ∨ k = 18 by omega) with rfl | rfl | rfl | rfl
        · rw [p1, q1, e 14 (by omega) (by omega), e 17 (by omega) (by omega)]
        · rw [p2, q2, e 15 (by omega) (by omega), e 17 (by omega) (by omega)]
        · rw [p3, q3]
        · rw [p4 18 (by decide) (by decide) (by decide), q4 18 (by decide) (by decide) (by decide), e 18 (by omega) (by omega)]
    · rw [wdC_o ha, wdC_o ha, e k h1 h2]
  have hn : ∀ k, k ≠ 14 → k ≠ 15 → k ≠ 16 → k ≠ 17 → k ≠ 18 → k ≠ 50 → setC cm r c v k = X k := by
    intro k h1 h2 h3 h4 h5 h6
    rw [setC, tchC_n h6, c3_n h3, hX, wdC_n h1 h2 h4 h5]
  have e4 : c3 (wdC X r c v) 16 0 (r / 16) (cm 16 0 (r / 16) + 1) 4 0 0 = cm 4 0 0 := by
    rw [c3_n (by decide), wdC_n (by decide) (by decide) (by decide) (by decide), w (by decide) (by decide) (by decide) (by decide) (by decide) (by decide)]
  have e50 : c3 (wdC X r c v) 16 0 (r / 16) (cm 16 0 (r / 16) + 1) 50 = cm 50 := by
    rw [c3_n (by decide), wdC_n (by decide) (by decide) (by decide) (by decide), w (by decide) (by decide) (by decide) (by decide) (by decide) (by decide)]
  refine ⟨hn, fun k h1 h2 h3 a => ?_, ?_, fun s hs => ?_, fun s hs => ?_⟩
  · rw [setC, tchC_n (by omega), c3_n h3, hX, hwd k h1 h2 h3]
  · rw [setC, tchC_n (by decide), c3_s, hX, wdC_n (by decide) (by decide) (by decide) (by decide), w (by decide) (by decide) (by decide) (by decide) (by decide) (by decide)]
  · rw [setC, hX, tchC, e4, rowU_lt hs, tchF, e50, tchB_ck (cm := cm) fun k hk => by rw [c3_n (by omega), wdC_n (by omega) (by omega) (by omega) (by omega), w (by omega) (by omega) (by omega) (by omega) (by omega) (by omega)]]
  · rw [setC, hX, tchC, e4, rowU_ge hs, e50]
theorem or_b01 {x : Int32} (h : b01 x) (b : Bool) : b01 (x ||| b2i b) ∧ (x ||| b2i b = 0 ↔ x = 0 ∧ b = false) := by
  rcases h with rfl | rfl <;> cases b <;> simp [b01, b2i]
theorem set_R {cm : CM} {cl : CL} {sh : Sh} {V : CV} {L : Int64} {M r c : Nat} {v : Int32} (H : SR cm cl sh V L M) (hM : M < 1000) (hr : r < nn (V 1 2)) (hc : c < 4) (hv : vl v) : SR (setC cm r c v) cl sh (wrV V (100 + 10 * (r / 16)) r c (mp v)) L (M + 1) := by
  obtain ⟨R, G, P, Dn, w, W, hRd, hP, ⟨m1, m2, m3⟩, ⟨n1, n2, n3, n4, n5⟩, hWt, hFh, hLn, hTc, hBs, hOp, hCl⟩ := H
  have hsc := fun s hs => hRd.sc (s := s) hs
  have hts := hRd.ts
  have hasks := hRd
  obtain ⟨hT, hF, hFs, hL14, hL4, hCe, hCk, hz, e5, v8, e4, hS, e45, v10, hDn, hSc⟩ := id hRd
  obtain ⟨hR, hM1, hG, h0, h1, h2, -⟩ := id hT
  have hrR : r < R := by rw [n1.1, nn_nI (by omega)] at hr; exact hr
  have hF30 := hF.2.1
  obtain ⟨s1, s2, s3, s4, s5⟩ := @setC_e cm r c v
  rw [e4, nn_nI (by omega)] at s4 s5
  have hTX := wr_TmR (c := c) hT hrR hv hM
  have hwr := fun {q k m} (hq : q < R) (hk : k < 4) (hm : m ≤ 1001) => wr_lk (v := v) hT hrR hc hq hk hm
  have hXn := @wrC_n cm r c v
  obtain ⟨-, x11, -, x13, -, -, -⟩ := wrC_10 (r := r) (c := c) (v := v) h2 h1 (by omega)
  generalize wrC cm r c v = X at *
  have hV : ∀ i, i ≠ 2 → i ≠ 0 → i ≠ 18 → i ≠ 100 + 10 * (r / 16) → i ≠ 100 + 10 * (r / 16) + 2 + 1 → i ≠ 100 + 10 * (r / 16) + 2 + 2 → i ≠ 100 + 10 * (r / 16) + 2 + 3 → wrV V (100 + 10 * (r / 16)) r c (mp v) i = V i := by
    intro i h1 h2 h3 h4 h5 h6 h7
    rw [wrV, c2_n _ _ _ h3, c2_n _ _ _ h2, c2_n _ _ _ h4, bAd_nn h5 h6 h7, rPut_n h1]
  have hV2 : wrV V (100 + 10 * (r / 16)) r c (mp v) 2 = upd (V 2) (4 * r + c) (mp v) := by
    rw [wrV, c2_n _ _ _ (by omega), c2_n _ _ _ (by omega), c2_n _ _ _ (by omega), bAd_nn (by omega) (by omega) (by omega), rPut, if_pos hr, c2_s]
  have hVk : ∀ k, k ≠ 4 → wrV V (100 + 10 * (r / 16)) r c (mp v) (100 + 10 * (r / 16)) k = V (100 + 10 * (r / 16)) k := by
    intro k hk
    rw [wrV, c2_n _ _ _ (by omega), c2_n _ _ _ (by omega), c2_o (by omega), bAd_nn (by omega) (by omega) (by omega), rPut_n (by omega)]
  have hV4 : wrV V (100 + 10 * (r / 16)) r c (mp v) (100 + 10 * (r / 16)) 4 = V (100 + 10 * (r / 16)) 4 + 1 := by
    rw [wrV, c2_n _ _ _ (by omega), c2_n _ _ _ (by omega), c2_e]
  have hVb : ∀ i k, (i = 1 ∨ i = 2 ∨ i = 3) → wrV V (100 + 10 * (r / 16)) r c (mp v) (100 + 10 * (r / 16) + 2 + i) k = bAd V (100 + 10 * (r / 16) + 2) c (mp v) (100 + 10 * (r / 16) + 2 + i) k := by
    intro i k hi
    rw [wrV, c2_n _ _ _ (by omega), c2_n _ _ _ (by omega), c2_n _ _ _ (by omega)]
    exact bAd_ck (fun l hl => rPut_n (by omega)) hi
  have hV0 : ∀ k, k ≠ 7 → wrV V (100 + 10 * (r / 16)) r c (mp v) 0 k = V 0 k := by
    intro k hk
    rw [wrV, c2_n _ _ _ (by omega), c2_o (by omega), c2_n _ _ _ (by omega), bAd_nn (by omega) (by omega) (by omega), rPut_n (by omega)]
  have hV7 : wrV V (100 + 10 * (r / 16)) r c (mp v) 0 7 = V 0 7 + 1 := by rw [wrV, c2_n _ _ _ (by omega), c2_e]
  have hV18 : wrV V (100 + 10 * (r / 16)) r c (mp v) 18 = upd (V 18) c (V 0 7 + 1) := by
    rw [wrV, c2_s, c2_n _ _ _ (by omega), c2_n _ _ _ (by omega), bAd_nn (by omega) (by omega) (by omega), rPut_n (by omega)]
  generalize wrV V (100 + 10 * (r / 16)) r c (mp v) = V' at *
  generalize setC cm r c v = cm' at *
  -- what stays of the reference
  have eq : ∀ k, k ≠ 1 → k ≠ 2 → k ≠ 10 → k ≠ 11 → k ≠ 12 → k ≠ 13 → k ≠ 14 → k ≠ 15 → k ≠ 16 → k ≠ 17 → k ≠ 18 → k ≠ 50 → cm' k = cm k := fun k a b c d e f g h i j l m => by rw [s1 k g h i j l m, hXn a b c d e f]
  have hT' : TmR cm' R (M + 1) (G + 1) := hTX.ck fun k hk => s1 k (by omega) (by omega) (by omega) (by omega) (by omega) (by omega)
  have hE2 : ∀ q k m, q < R → k < 4 → m ≤ 1001 → lk cm' q k (nI m) = if q = r ∧ k = c ∧ M < m then v else lk cm q k (nI m) := by
    intro q k m hq hk hm
    rw [← hwr hq hk hm, lk, lk, s1 2 (by decide) (by decide) (by decide) (by decide) (by decide) (by decide)]
    exact lkup_cg (by rw [s1 6 (by decide) (by decide) (by decide) (by decide) (by decide) (by decide)]) _ fun x _ => ⟨by rw [s1 10 (by decide) (by decide) (by decide) (by decide) (by decide) (by decide)], by rw [s1 11 (by decide) (by decide) (by decide) (by decide) (by decide) (by decide)], by rw [s1 12 (by decide) (by decide) (by decide) (by decide) (by decide) (by decide)], by rw [s1 13 (by decide) (by decide) (by decide) (by decide) (by decide) (by decide)]⟩
  have hal : ∀ q t, aliveM cm' q t = aliveM cm q t := fun q t => by rw [aliveM, aliveM, eq 8 (by decide) (by decide) (by decide) (by decide) (by decide) (by decide) (by decide) (by decide) (by decide) (by decide) (by decide) (by decide), eq 9 (by decide) (by decide) (by decide) (by decide) (by decide) (by decide) (by decide) (by decide) (by decide) (by decide) (by decide) (by decide)]
  have hE : TmE cm cm' R M := fun q t hq ht => ⟨fun k hk => by rw [hE2 q k t hq hk (by omega), if_neg (by omega)], hal q _⟩
  have eF : ∀ k, k = 3 ∨ (19 ≤ k ∧ k ≤ 45) ∨ k = 51 ∨ k = 4 ∨ k = 5 ∨ k = 7 ∨ k = 8 ∨ k = 9 ∨ k = 6 → cm' k = cm k := fun k hk => eq k (by omega) (by omega) (by omega) (by omega) (by omega) (by omega) (by omega) (by omega) (by omega) (by omega) (by omega) (by omega)
  clear eq hTX hwr hXn
  have hF' : FR cm' sh V' := (hF.cm fun k hk => eF k (by omega)).cg fun i h1 h2 => hV i (by omega) (by omega) (by omega) (by omega) (by omega) (by omega) (by omega)
  have hbd : ∀ a x, BdI cm a x → BdI cm' a x := by
    intro a x hx
    have := hx.wd (r := r) (c := c) (v := v)
    rw [BdI] at this ⊢
    rw [s2 14 (by decide) (by decide) (by decide), s2 15 (by decide) (by decide) (by decide), s2 17 (by decide) (by decide) (by decide), s2 18 (by decide) (by decide) (by decide)]
    exact this
  have hsco := scans_ok (cm' := cm') (sh' := sh) (W := V') (R' := R) (M' := M + 1) (S := sh.S) hRd hCl (Nat.le_refl _) (fun s _ => ScE.of fun k hk => eF k (by omega)) hE (fun k j h1 h2 _ => by rw [eF k (by omega)]) (Nat.le_refl _) (by omega) (fun q t a b => by omega) (fun i a b => hV i (by omega) (by omega) (by omega) (by omega) (by omega) (by omega) (by omega)) (Nat.le_refl _) (fun _ _ _ => rfl)
  refine ⟨R, G + 1, P, Dn, w, fun x => if x = c then M + 1 else W x, ⟨hT', hF', ?_, ?_, ?_, hCe, fun k hk => ?_, fun k ha hb x hx => ?_, ?_, ?_, ?_, hS, ?_, ?_, ?_, fun s hs => (hsco s hs).1⟩, hP, ⟨?_, ?_, fun x hx => ?_⟩, ⟨?_, n2, ?_, n4, n5⟩, ⟨?_, fun x hx => ?_, fun k hk => ?_, ?_⟩, ⟨?_, fun k ha hb => ⟨?_, fun x hx => ?_⟩, fun s ha hb => ⟨?_, ?_⟩⟩, ?_, ?_, ?_, ?_, fun s hs => (hsco s hs).2⟩
  · exact FsOk_cg (hV 7 (by omega) (by omega) (by omega) (by omega) (by omega) (by omega) (by omega)) hFs
  · exact LsOk_cgv (hV 14 (by omega) (by omega) (by omega) (by omega) (by omega) (by omega) (by omega)) hL14
  · exact LsOk_cgv (hV 4 (by omega) (by omega) (by omega) (by omega) (by omega) (by omega) (by omega)) hL4
  · obtain ⟨c1, c2', c3', c4, c5, c6, c7⟩ := hCk k hk
    have eb : ∀ x i, bv cm' k x i = bv cm k x i := fun x i => by rw [bv, bv, eF 7 (by omega)]
    by_cases hkr : k = r / 16
    · subst hkr
      refine ⟨by rw [hVk 0 (by decide)]; exact c1, by rw [hVk 3 (by decide)]; exact c2', by rw [hV4, c3', s3, upd_s], c4, c5, fun x hx => ?_, fun i hi x hx => ?_⟩
      · exact (bd_ad (c := c) (c6 x hx) hv).ck (fun l hl => s2 l (by omega) (by omega) hl.2.2 _) (hVb 1 x (by omega)) (hVb 2 x (by omega)) (hVb 3 x (by omega))
      · rw [eb, hV _ (by omega) (by omega) (by omega) (by omega) (by omega) (by omega) (by omega)]
        exact c7 i hi x hx
    · refine ⟨by rw [hV _ (by omega) (by omega) (by omega) (by omega) (by omega) (by omega) (by omega)]; exact c1, by rw [hV _ (by omega) (by omega) (by omega) (by omega) (by omega) (by omega) (by omega)]; exact c2', by rw [hV _ (by omega) (by omega) (by omega) (by omega) (by omega) (by omega) (by omega), c3', s3, upd_n _ _ hkr], c4, c5, fun x hx => ?_, fun i hi x hx => ?_⟩
      · exact (c6 x hx).ck (fun l hl => by rw [s2 l (by omega) (by omega) hl.2.2, wdC_o (by omega)]) (by rw [hV _ (by omega) (by omega) (by omega) (by omega) (by omega) (by omega) (by omega)]) (by rw [hV _ (by omega) (by omega) (by omega) (by omega) (by omega) (by omega) (by omega)]) (by rw [hV _ (by omega) (by omega) (by omega) (by omega) (by omega) (by omega) (by omega)])
      · rw [eb, hV _ (by omega) (by omega) (by omega) (by omega) (by omega) (by omega) (by omega)]
        exact c7 i hi x hx
  · rw [s2 17 (by decide) (by decide) (by decide), wdC_o (by omega)]; exact hz k ha hb x hx
  · rw [eF 5 (by omega)]; exact e5
  · rw [hV0 8 (by decide)]; exact v8
  · rw [eF 4 (by omega)]; exact e4
  · rw [eF 45 (by omega)]; exact e45
  · rw [hV0 10 (by decide)]; exact v10
  · rw [eF 33 (by omega)]; exact hDn
  · rw [hV7, m1, show (1 : Int32) = nI 1 from rfl, nI_add]
  · rw [hV0 6 (by decide)]; exact m2
  · rw [hV18]
    show _ = nI (if x = c then M + 1 else W x)
    by_cases hx' : x = c
    · rw [hx', upd_s, if_pos rfl, m1, show (1 : Int32) = nI 1 from rfl, nI_add]
    · rw [upd_n _ _ hx', if_neg hx']; exact m3 x hx
  · obtain ⟨w1, w2, w3, w4, w5, w6, w7⟩ := n1
    refine ⟨by rw [hV 1 (by omega) (by omega) (by omega) (by omega) (by omega) (by omega) (by omega)]; exact w1, w2, w3, w4, fun q k hq hk => ?_, fun q hq => ?_, fun q ha hb => ?_⟩
    · rw [hE2 q k (M + 1) hq hk (by omega)]
      show V' 2 _ = _
      rw [hV2]
      by_cases hqr : q = r ∧ k = c
      · rw [if_pos ⟨hqr.1, hqr.2, by omega⟩, hqr.1, hqr.2, upd_s]
      · rw [if_neg (fun h => hqr ⟨h.1, h.2.1⟩), upd_n _ _ (by omega), lk_M hT (Nat.le_refl _) (Nat.le_succ _) (by omega) (by omega)]
        exact w5 q k hq hk
    · show V' 3 _ = _
      rw [alive_M hT' hq, eF 9 (by omega), hV 3 (by omega) (by omega) (by omega) (by omega) (by omega) (by omega) (by omega), ← alive_M hT hq]
      exact w6 q hq
    · show V' 3 _ = _
      rw [hV 3 (by omega) (by omega) (by omega) (by omega) (by omega) (by omega) (by omega)]
      exact w7 q ha hb
  · rw [hV 1 (by omega) (by omega) (by omega) (by omega) (by omega) (by omega) (by omega), eF 9 (by omega)]; exact n3
  · have := hWt.1; omega
  · have := hWt.2.1 x hx
    show (if x = c then M + 1 else W x) ≤ M + 1
    split <;> omega
  · rw [s1 11 (by decide) (by decide) (by decide) (by decide) (by decide) (by decide), s1 13 (by decide) (by decide) (by decide) (by decide) (by decide) (by decide), x11, x13]
    by_cases hkG : k = G
    · subst hkG
      rw [upd_s, upd_s]
      exact ⟨c, M + 1, hc, rfl, rfl, by show M + 1 ≤ (if c = c then M + 1 else W c); rw [if_pos rfl]; exact Nat.le_refl _⟩
    · rw [upd_n _ _ hkG, upd_n _ _ hkG]
      obtain ⟨x, a, p1, p2, p3, p4⟩ := hWt.2.2.1 k (by omega)
      refine ⟨x, a, p1, p2, p3, ?_⟩
      have := hWt.2.1 x p1
      show a ≤ (if x = c then M + 1 else W x)
      split <;> omega
  · rw [eF 8 (by omega), eF 9 (by omega)]; exact hWt.2.2.2
  · rw [BOk, eF 7 (by omega)]; exact hFh.1
  · rw [s3, upd_n _ _ (by omega)]; exact (hFh.2.1 k ha hb).1
  · rw [s2 18 (by decide) (by decide) (by decide), wdC_o (by omega)]; exact (hFh.2.1 k ha hb).2 x hx
  · rw [s5 s ha]; exact (hFh.2.2 s ha hb).1
  · exact (hFh.2.2 s ha hb).2.ck fun k hk i j => by rw [eF k (by omega)]
  · exact hLn.ck fun s hs => ⟨by rw [eF 29 (by omega)], by rw [eF 30 (by omega)]⟩
  · intro s hs
    obtain ⟨ts, t1, t2, t3, t4⟩ := hTc s hs
    obtain ⟨o1, o2⟩ := or_b01 t3 (tchB cm (nI c) s)
    refine ⟨ts, by omega, by rw [eF 27 (by omega)]; exact t2, by rw [s4 s hs]; exact o1, ?_⟩
    rw [s4 s hs, o2, t4]
    simp only [tchB_ck (cm := cm) (cm' := cm') fun k hk => eF k (by omega)]
    constructor
    · rintro ⟨⟨a, b⟩, d⟩
      refine ⟨a, fun x hx hb => ?_⟩
      by_cases hxc : x = c
      · subst hxc; rw [d] at hb; exact Bool.noConfusion hb
      · rw [if_neg hxc]; exact b x hx hb
    · rintro ⟨a, b⟩
      have hcf : tchB cm (nI c) s = false := by
        cases h : tchB cm (nI c) s
        · rfl
        · have := b c hc h
          rw [if_pos rfl] at this
          omega
      refine ⟨⟨a, fun x hx hb => ?_⟩, hcf⟩
      have := b x hx hb
      by_cases hxc : x = c
      · subst hxc; rw [hcf] at hb; exact Bool.noConfusion hb
      · rw [if_neg hxc] at this; exact this
  · intro q hq ha k hk
    rw [hE2 q k (M + 1) hq hk (by omega)]
    rw [alive_M hT' hq, eF 9 (by omega), ← alive_M hT hq] at ha
    by_cases hqr : q = r ∧ k = c
    · rw [if_pos ⟨hqr.1, hqr.2, by omega⟩, hqr.1, hqr.2]
      have := @BdI.new cm r c v
      rw [BdI] at this ⊢
      rw [s2 14 (by decide) (by decide) (by decide), s2 15 (by decide) (by decide) (by decide), s2 17 (by decide) (by decide) (by decide), s2 18 (by decide) (by decide) (by decide)]
      exact this
    · rw [if_neg (fun h => hqr ⟨h.1, h.2.1⟩), lk_M hT (Nat.le_refl _) (Nat.le_succ _) (by omega) (by omega)]
      exact hbd _ _ (hBs q hq ha k hk)
  · exact hOp.mono hE (fun s _ h => by rw [eF 33 (by omega)] at h; exact h) (fun s _ => by rw [eF 27 (by omega)]) hts (by omega) (by omega) hbd


