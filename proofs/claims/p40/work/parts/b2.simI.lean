-- deps: b1.simH 88.filt2
/-! calls that ask for chunks -/
theorem SR.chk {cm : CM} {cl : CL} {sh : Sh} {V : CV} {L : Int64} {M : Nat} (H : SR cm cl sh V L M) (x c : Int32) : noFil cm x = !fsH sh x ∧ noScan cm x = !nuB sh.S x ∧ noChunk cm x = !nuB sh.C x ∧ noPlace cm x c = !(colB c && nuB sh.C x) ∧ chN cm = nI sh.C ∧ (nuB sh.C x = true → ∃ R k, x = nI k ∧ k < sh.C ∧ k < 10 ∧ R ≤ 160 ∧ cm 0 0 0 = nI R ∧ 16 * k < R ∧ CkS cm sh V R k) := by
  obtain ⟨R, G, P, Dn, w, W, hRd, hP, hMo, hNw, hWt, hFh, hLn, hTc, hBs, hOp, hCl⟩ := H
  obtain ⟨a1, a2, a3, a4⟩ := hRd.asks x c
  obtain ⟨hT, hF, hFs, hL14, hL4, hCe, hCk, hz, e5, v8, e4, hS, e45, v10, hDn, hSc⟩ := hRd
  have hR := hT.1
  have h0 := hT.2.2.2.1
  refine ⟨a1, a2, a3, a4, by rw [chN_nI hR h0, hCe], fun h => ?_⟩
  obtain ⟨k, hk, rfl⟩ := nuB_nI (by omega) h
  exact ⟨R, k, rfl, hk, by omega, hR, h0, by omega, hCk k hk⟩
theorem P_encoding {cm : CM} {cl : CL} {sh : Sh} {V : CV} {L : Int64} {M : Nat} (H : SR cm cl sh V L M) (x c : Int32) :
    Cls [((colB c && nuB sh.C x) = false, 1)] (thr cm (noPlace cm x c) 1 49 0 0 = 0 ∧ cdI (chX (coC V (100 + 10 * nn x) (nn c)) 3) = (if noPlace cm x c then 45 else bst (bv cm (nn x) (nn c)) (rN cm (nn x)) 3) ∧ SR (thr cm (noPlace cm x c) 1) cl sh V L M) (fun k => thr cm (noPlace cm x c) 1 49 0 0 = k ∧ SR (thr cm (noPlace cm x c) 1) cl sh V L M) := by
  obtain ⟨-, -, -, e, -, hk⟩ := H.chk x c
  rw [e]
  refine ⟨fun h => ?_, fun h => ?_⟩
  · rw [show (colB c && nuB sh.C x) = false from h, Bool.not_false]; exact ⟨thr_49t, H.th _ _⟩
  · have h' : (colB c && nuB sh.C x) = true := by simpa using h
    rw [h', Bool.not_true]
    rw [Bool.and_eq_true] at h'
    obtain ⟨R, k, rfl, k1, k2, k3, k4, k5, k6⟩ := hk h'.2
    obtain ⟨q, hq, rfl⟩ := colB_nI h'.1
    rw [nn_nI (by omega), nn_nI (by omega)]
    exact ⟨thr_49f, by rw [if_neg (by decide)]; exact (k6.best k3 k4 k5 hq 3 (by omega)).symm, H.th _ _⟩
theorem P_bits {cm : CM} {cl : CL} {sh : Sh} {V : CV} {L : Int64} {M : Nat} (H : SR cm cl sh V L M) (x c : Int32) :
    Cls [((colB c && nuB sh.C x) = false, 1)] (thr cm (noPlace cm x c) 1 49 0 0 = 0 ∧ lcC V (100 + 10 * nn x) (nn c) = (if noPlace cm x c then 0 else btC cm (nn x) (nn c)) ∧ SR (thr cm (noPlace cm x c) 1) cl sh V L M) (fun k => thr cm (noPlace cm x c) 1 49 0 0 = k ∧ SR (thr cm (noPlace cm x c) 1) cl sh V L M) := by
  obtain ⟨-, -, -, e, -, hk⟩ := H.chk x c
  rw [e]
  refine ⟨fun h => ?_, fun h => ?_⟩
  · rw [show (colB c && nuB sh.C x) = false from h, Bool.not_false]; exact ⟨thr_49t, H.th _ _⟩
  · have h' : (colB c && nuB sh.C x) = true := by simpa using h
    rw [h', Bool.not_true]
    rw [Bool.and_eq_true] at h'
    obtain ⟨R, k, rfl, k1, k2, k3, k4, k5, k6⟩ := hk h'.2
    obtain ⟨q, hq, rfl⟩ := colB_nI h'.1
    rw [nn_nI (by omega), nn_nI (by omega)]
    exact ⟨thr_49f, by rw [if_neg (by decide)]; exact (k6.lc k3 k4 k5 hq).symm, H.th _ _⟩
theorem P_changes {cm : CM} {cl : CL} {sh : Sh} {V : CV} {L : Int64} {M : Nat} (H : SR cm cl sh V L M) (x : Int32) :
    Cls [(nuB sh.C x = false, 1)] (thr cm (noChunk cm x) 1 49 0 0 = 0 ∧ V (100 + 10 * nn x) 4 = (if noChunk cm x then 0 else cm 16 0 (nn x)) ∧ SR (thr cm (noChunk cm x) 1) cl sh V L M) (fun k => thr cm (noChunk cm x) 1 49 0 0 = k ∧ SR (thr cm (noChunk cm x) 1) cl sh V L M) := by
  obtain ⟨-, -, e, -, -, hk⟩ := H.chk x 0
  rw [e]
  refine ⟨fun h => ?_, fun h => ?_⟩
  · rw [show nuB sh.C x = false from h, Bool.not_false]; exact ⟨thr_49t, H.th _ _⟩
  · have h' : nuB sh.C x = true := by simpa using h
    rw [h', Bool.not_true]
    obtain ⟨R, k, rfl, k1, k2, k3, k4, k5, k6⟩ := hk h'
    rw [nn_nI (by omega)]
    exact ⟨thr_49f, by rw [if_neg (by decide)]; exact k6.2.2.1, H.th _ _⟩
theorem P_least {cm : CM} {cl : CL} {sh : Sh} {V : CV} {L : Int64} {M : Nat} (H : SR cm cl sh V L M) (x c : Int32) :
    Cls [((colB c && nuB sh.C x) = false, 1), (bHas V (100 + 10 * nn x + 2) (nn c) = false, 2)] ((leastM 14 cm x c).2 49 0 0 = 0 ∧ V (100 + 10 * nn x + 2 + 1) (nn c) = (leastM 14 cm x c).1 ∧ SR (leastM 14 cm x c).2 cl sh V L M) (fun k => (leastM 14 cm x c).2 49 0 0 = k ∧ SR (leastM 14 cm x c).2 cl sh V L M) := by
  obtain ⟨-, -, -, e, -, hk⟩ := H.chk x c
  rw [leastM, e]
  refine ⟨fun h => ?_, fun h => ?_⟩
  · rw [show (colB c && nuB sh.C x) = false from h, Bool.not_false, if_pos rfl]; dsimp only; exact ⟨thr_49t, H.th _ _⟩
  · have h' : (colB c && nuB sh.C x) = true := by simpa using h
    rw [h', Bool.not_true, if_neg (by decide)]
    rw [Bool.and_eq_true] at h'
    obtain ⟨R, k, rfl, k1, k2, k3, k4, k5, k6⟩ := hk h'.2
    obtain ⟨q, hq, rfl⟩ := colB_nI h'.1
    rw [nn_nI (by omega), nn_nI (by omega)]
    have hb := k6.2.2.2.2.2.1 q hq
    rw [hb.has]
    by_cases h17 : cm 17 0 (4 * k + q) = 0
    · rw [if_pos h17, h17]
      exact ⟨fun _ => ⟨by dsimp only; exact thr_49t, (H.th _ _).th _ _⟩, fun h2 => absurd (by decide) h2⟩
    · rw [if_neg h17, decide_eq_false h17]
      exact ⟨fun h2 => absurd h2 (by decide), fun _ => ⟨by dsimp only; exact thr_49f, (hb.2.2.2.2 h17).1, (H.th _ _).th _ _⟩⟩
theorem P_greatest {cm : CM} {cl : CL} {sh : Sh} {V : CV} {L : Int64} {M : Nat} (H : SR cm cl sh V L M) (x c : Int32) :
    Cls [((colB c && nuB sh.C x) = false, 1), (bHas V (100 + 10 * nn x + 2) (nn c) = false, 2)] ((leastM 15 cm x c).2 49 0 0 = 0 ∧ V (100 + 10 * nn x + 2 + 2) (nn c) = (leastM 15 cm x c).1 ∧ SR (leastM 15 cm x c).2 cl sh V L M) (fun k => (leastM 15 cm x c).2 49 0 0 = k ∧ SR (leastM 15 cm x c).2 cl sh V L M) := by
  obtain ⟨-, -, -, e, -, hk⟩ := H.chk x c
  rw [leastM, e]
  refine ⟨fun h => ?_, fun h => ?_⟩
  · rw [show (colB c && nuB sh.C x) = false from h, Bool.not_false, if_pos rfl]; dsimp only; exact ⟨thr_49t, H.th _ _⟩
  · have h' : (colB c && nuB sh.C x) = true := by simpa using h
    rw [h', Bool.not_true, if_neg (by decide)]
    rw [Bool.and_eq_true] at h'
    obtain ⟨R, k, rfl, k1, k2, k3, k4, k5, k6⟩ := hk h'.2
    obtain ⟨q, hq, rfl⟩ := colB_nI h'.1
    rw [nn_nI (by omega), nn_nI (by omega)]
    have hb := k6.2.2.2.2.2.1 q hq
    rw [hb.has]
    by_cases h17 : cm 17 0 (4 * k + q) = 0
    · rw [if_pos h17, h17]
      exact ⟨fun _ => ⟨by dsimp only; exact thr_49t, (H.th _ _).th _ _⟩, fun h2 => absurd (by decide) h2⟩
    · rw [if_neg h17, decide_eq_false h17]
      exact ⟨fun h2 => absurd h2 (by decide), fun _ => ⟨by dsimp only; exact thr_49f, (hb.2.2.2.2 h17).2.1, (H.th _ _).th _ _⟩⟩
theorem P_mayMiss {cm : CM} {cl : CL} {sh : Sh} {V : CV} {L : Int64} {M : Nat} (H : SR cm cl sh V L M) (x c : Int32) :
    Cls [((colB c && nuB sh.C x) = false, 1)] (thr cm (noPlace cm x c) 1 49 0 0 = 0 ∧ bMis V (100 + 10 * nn x + 2) (nn c) = (!noPlace cm x c && !decide (cm 18 0 (4 * nn x + nn c) = 0)) ∧ SR (thr cm (noPlace cm x c) 1) cl sh V L M) (fun k => thr cm (noPlace cm x c) 1 49 0 0 = k ∧ SR (thr cm (noPlace cm x c) 1) cl sh V L M) := by
  obtain ⟨-, -, -, e, -, hk⟩ := H.chk x c
  rw [e]
  refine ⟨fun h => ?_, fun h => ?_⟩
  · rw [show (colB c && nuB sh.C x) = false from h, Bool.not_false]; exact ⟨thr_49t, H.th _ _⟩
  · have h' : (colB c && nuB sh.C x) = true := by simpa using h
    rw [h', Bool.not_true]
    rw [Bool.and_eq_true] at h'
    obtain ⟨R, k, rfl, k1, k2, k3, k4, k5, k6⟩ := hk h'.2
    obtain ⟨q, hq, rfl⟩ := colB_nI h'.1
    rw [nn_nI (by omega), nn_nI (by omega)]
    exact ⟨thr_49f, by rw [(k6.2.2.2.2.2.1 q hq).mis]; rfl, H.th _ _⟩
/-- how many are open -/
theorem SR.op {cm : CM} {cl : CL} {sh : Sh} {V : CV} {L : Int64} {M : Nat} (H : SR cm cl sh V L M) : opN cm = sumI (opC V) sh.S ∧ ∃ m, opN cm = nI m ∧ m ≤ 40 := by
  obtain ⟨R, G, P, Dn, w, W, hRd, -⟩ := H
  obtain ⟨a, b, -⟩ := op_eq hRd
  exact ⟨a, b⟩
theorem P_mend {cm : CM} {cl : CL} {sh : Sh} {V : CV} {L : Int64} {M : Nat} (H : SR cm cl sh V L M) (x : Int32) :
    Cls [(nuB sh.C x = false, 1), (0 < sumI (opC V) sh.S, 2)] ((mdM cm x).2 49 0 0 = 0 ∧ V (100 + 10 * nn x) 4 = (mdM cm x).1 ∧ SR (mdM cm x).2 cl sh (chR sh (bFo (c2 V (100 + 10 * nn x) 4 0) (100 + 10 * nn x + 2) 4) (100 + 10 * nn x) (nn (V (100 + 10 * nn x) 0)) (nn (V (100 + 10 * nn x) 3))) L M) (fun k => (mdM cm x).2 49 0 0 = k ∧ SR (mdM cm x).2 cl sh V L M) := by
  obtain ⟨-, -, e, -, -, hk⟩ := H.chk x 0
  obtain ⟨o1, -⟩ := H.op
  rw [mdM, e, ← o1]
  refine ⟨fun h => ?_, fun h => ?_⟩
  · rw [show nuB sh.C x = false from h, Bool.not_false, if_pos rfl]; dsimp only; exact ⟨thr_49t, H.th _ _⟩
  · have h' : nuB sh.C x = true := by simpa using h
    rw [h', Bool.not_true, if_neg (by decide)]
    obtain ⟨R, k, rfl, k1, k2, k3, k4, k5, k6⟩ := hk h'
    rw [nn_nI (by omega)]
    refine ⟨fun h2 => ?_, fun h2 => ?_⟩
    · rw [if_pos (show 0 < opN cm from h2)]; dsimp only; exact ⟨thr_49t, (H.th _ _).th _ _⟩
    · rw [if_neg (show ¬ 0 < opN cm from h2)]
      have hop : opN (thr (thr cm false 1) false 2) = opN cm := by
        rw [opN, opN, thr_nq (by decide), thr_nq (by decide)]
        exact sumI_cg fun i _ => by rw [opF, opF, thr_nq (by decide), thr_nq (by decide)]
      have hro : roN (thr (thr cm false 1) false 2) (nI k) = roN cm (nI k) := by rw [roN, roN, thr_nq (by decide), thr_nq (by decide)]
      obtain ⟨q1, q2⟩ := md_R ((H.th false 1).th false 2) k1 (by rw [hop]; exact h2)
      rw [hro] at q1
      rw [thr_nq (by decide), thr_nq (by decide)] at q2
      refine ⟨?_, q2, q1⟩
      dsimp only
      rw [c3_n (by decide), mdC_n (by decide) (by decide) (by decide) (by decide) (by decide)]
      exact thr_49f
/-! filters -/
theorem SR.fil {cm : CM} {cl : CL} {sh : Sh} {V : CV} {L : Int64} {M : Nat} (H : SR cm cl sh V L M) : FR cm sh V ∧ cm 3 0 0 = nI sh.F ∧ sh.F ≤ 30 := by
  obtain ⟨R, G, P, Dn, w, W, hRd, -⟩ := H
  exact ⟨hRd.2.1, hRd.2.1.1, hRd.2.1.2.1⟩
theorem P_canBe {cm : CM} {cl : CL} {sh : Sh} {V : CV} {L : Int64} {M : Nat} (H : SR cm cl sh V L M) (x y : Int32) :
    Cls [(fsH sh x = false, 1), (nuB sh.C y = false, 2)] ((cbM cm x y).2 49 0 0 = 0 ∧ ouT V (100 + 10 * nn y + 2) (V (300 + nn x) 7) (nn x + 1) 9 (nn x) = (cbM cm x y).1 ∧ SR (cbM cm x y).2 cl sh (ouT V (100 + 10 * nn y + 2) (V (300 + nn x) 7) (nn x + 1)) L M) (fun k => (cbM cm x y).2 49 0 0 = k ∧ SR (cbM cm x y).2 cl sh V L M) := by
  obtain ⟨e1, -, -, -, eC, -⟩ := H.chk x 0
  obtain ⟨-, -, -, -, -, hk⟩ := H.chk y 0
  obtain ⟨hF, hF3, hF30⟩ := H.fil
  obtain ⟨⟨-, hC10⟩, -⟩ := H.cp
  rw [cbM, e1, eC, inR_nu (by omega)]
  refine ⟨fun h => ?_, fun h => ?_⟩
  · rw [show fsH sh x = false from h, Bool.not_false, if_pos rfl]; dsimp only; exact ⟨thr_49t, H.th _ _⟩
  · have h' : fsH sh x = true := by simpa using h
    rw [h', Bool.not_true, if_neg (by decide)]
    obtain ⟨j, hj, rfl⟩ := nuB_nI (by omega) h'
    rw [nn_nI (by omega)]
    refine ⟨fun h2 => ?_, fun h2 => ?_⟩
    · rw [if_pos (show nuB sh.C y = false from h2)]; dsimp only; exact ⟨thr_49t, (H.th _ _).th _ _⟩
    · rw [if_neg (show ¬ nuB sh.C y = false from h2)]
      obtain ⟨R, k, rfl, k1, k2, k3, k4, k5, k6⟩ := hk (by simpa using h2)
      rw [nn_nI (by omega)]
      refine ⟨by dsimp only; exact thr_49f, ?_, ?_⟩
      · dsimp only
        have hF' : FR (thr (thr cm false 1) false 2) sh V := hF.cm fun q hq => by rw [thr_nq (by omega), thr_nq (by omega)]
        have hB' : ∀ c, c < 4 → BdS1 (thr (thr cm false 1) false 2) V (100 + 10 * k + 2) k c := fun c hc => (k6.2.2.2.2.2.1 c hc).ck (fun l hl => by rw [thr_nq (by omega), thr_nq (by omega)]) rfl rfl rfl
        exact outF hF' (by omega) hB' hj
      · exact ((H.th _ _).th _ _).ask (fun _ _ => rfl) fun i h9 _ _ _ _ _ => ouT_n h9 (j + 1)


