-- deps: b2.simI 88.filt2 89.join 90.open 87.load2 26.mo6
/-! filters, scans, load -/
theorem nfC_e {cm : CM} {kd a b m : Int32} {F : Nat} (h3 : cm 3 0 0 = nI F) (hF : F < 2147483648) : nfC cm kd a b m 3 0 0 = nI (F + 1) ∧ nfC cm kd a b m 19 0 F = kd ∧ nfC cm kd a b m 20 0 F = a ∧ nfC cm kd a b m 21 0 F = b ∧ nfC cm kd a b m 22 0 F = m ∧ (∀ k j, 19 ≤ k → k ≤ 22 → j < F → nfC cm kd a b m k 0 j = cm k 0 j) ∧ ∀ k, k ≠ 3 → k < 19 ∨ 22 < k → nfC cm kd a b m k = cm k := by
  rw [nfC, h3, nn_nI hF]
  refine ⟨?_, ?_, ?_, ?_, ?_, fun k j h1 h2 h => ?_, fun k h3 h => ?_⟩
  · rw [c3_s, upd_s]; exact nI_add F 1
  · rw [c3_n (by decide), c3_n (by decide), c3_n (by decide), c3_n (by decide), c3_s, upd_s]
  · rw [c3_n (by decide), c3_n (by decide), c3_n (by decide), c3_s, upd_s]
  · rw [c3_n (by decide), c3_n (by decide), c3_s, upd_s]
  · rw [c3_n (by decide), c3_s, upd_s]
  · rw [c3_n (by omega), c3_o (by omega), c3_o (by omega), c3_o (by omega), c3_o (by omega)]
  · rw [c3_n h3, c3_n (by omega), c3_n (by omega), c3_n (by omega), c3_n (by omega)]
theorem P_compare {cm : CM} {cl : CL} {sh : Sh} {V : CV} {L : Int64} {M : Nat} (H : SR cm cl sh V L M) (k c n : Int32) :
    Cls [(cmpK k c n = false, 1), (sh.F = 30, 2)] ((cmpM cm k c n).2 49 0 0 = 0 ∧ nI sh.F = (cmpM cm k c n).1 ∧ SR (cmpM cm k c n).2 cl (sXF sh) (vF sh V (coV sh k c n)) L M) (fun q => (cmpM cm k c n).2 49 0 0 = q ∧ SR (cmpM cm k c n).2 cl sh V L M) := by
  obtain ⟨hF, hF3, hF30⟩ := H.fil
  have ek : ((decide (k = 60) || decide (k = 61) || decide (k = 62) || decide (k = 109)) && (inR c 0 3 && (decide (k = 109) || inR n (-999) 999))) = cmpK k c n := by rw [inR_col]; rfl
  rw [cmpM, ek]
  refine ⟨fun h => ?_, fun h => ?_⟩
  · rw [show cmpK k c n = false from h, if_neg (by decide)]; dsimp only; exact ⟨thr_49t, H.th _ _⟩
  · have h' : cmpK k c n = true := by simpa using h
    rw [h', if_pos rfl]
    have e30 : (cm 3 0 0 = 30) = (sh.F = 30) := by rw [hF3]; exact propext (nI_eqq (b := 30) (by omega) (by omega))
    refine ⟨fun h2 => ?_, fun h2 => ?_⟩
    · rw [if_pos (by rw [e30]; exact h2)]; dsimp only; exact ⟨thr_49t, (H.th _ _).th _ _⟩
    · have h2' : ¬ sh.F = 30 := h2
      rw [if_neg (by rw [e30]; exact h2)]
      rw [cmpK, Bool.and_eq_true, Bool.and_eq_true] at h'
      obtain ⟨c', hc', rfl⟩ := colB_nI h'.2.1
      obtain ⟨n1, n2, n3, n4, n5, n6, n7⟩ := nfC_e (cm := thr (thr cm false 1) false 2) (kd := k) (a := nI c') (b := n) (m := 1) (F := sh.F) (by rw [thr_nq (by decide), thr_nq (by decide)]; exact hF3) (by omega)
      have hk : k = 60 ∨ k = 61 ∨ k = 62 ∨ k = 109 := by simpa [or_assoc] using h'.1
      refine ⟨?_, by dsimp only; rw [hF3], ?_⟩
      · dsimp only; rw [n7 49 (by decide) (by decide)]; exact thr_49f
      · exact fil_R ((H.th false 1).th false 2) (by omega) n1 (fun q h3 hq _ => n7 q h3 hq) n6 (FR1.cmp (by omega) hk hc' n2 n3 n4 n5)
theorem P_join {cm : CM} {cl : CL} {sh : Sh} {V : CV} {L : Int64} {M : Nat} (H : SR cm cl sh V L M) (k x y : Int32) :
    Cls [(isJ k = false, 1), ((fsH sh x && fsH sh (joO k x y)) = false, 2), ((sh.F = 30 ∨ 12 < joN V k (nn x) (nn (joO k x y))), 3)] ((joinM cm k x y).2 49 0 0 = 0 ∧ nI sh.F = (joinM cm k x y).1 ∧ SR (joinM cm k x y).2 cl (sXF sh) (vF sh V (joV sh V k (nn x) (nn (joO k x y)) (joN V k (nn x) (nn (joO k x y))))) L M) (fun q => (joinM cm k x y).2 49 0 0 = q ∧ SR (joinM cm k x y).2 cl sh V L M) := by
  obtain ⟨hF, hF3, hF30⟩ := H.fil
  have e2 : (inR x 0 (cm 3 0 0 - 1) && (decide (k = 110) || inR y 0 (cm 3 0 0 - 1))) = (fsH sh x && fsH sh (joO k x y)) := by
    rw [hF3, inR_nu (by omega), inR_nu (by omega), fsH_nu, fsH_nu, joO]
    by_cases h : k = 110
    · rw [if_pos h, decide_eq_true h, Bool.true_or, Bool.and_true, Bool.and_self]
    · rw [if_neg h, decide_eq_false h, Bool.false_or]
  rw [joinM, e2]
  refine ⟨fun h => ?_, fun h => ?_⟩
  · rw [if_pos (show isJ k = false from h)]; dsimp only; exact ⟨thr_49t, H.th _ _⟩
  · have hJ : isJ k = true := by simpa using h
    rw [if_neg (show ¬ isJ k = false from h)]
    refine ⟨fun h2 => ?_, fun h2 => ?_⟩
    · rw [if_pos (show (fsH sh x && fsH sh (joO k x y)) = false from h2)]; dsimp only; exact ⟨thr_49t, (H.th _ _).th _ _⟩
    · rw [if_neg (show ¬ (fsH sh x && fsH sh (joO k x y)) = false from h2)]
      have h2' : (fsH sh x && fsH sh (joO k x y)) = true := by simpa using h2
      rw [Bool.and_eq_true] at h2'
      obtain ⟨a, ha, ea⟩ := nuB_nI (n := sh.F) (by omega) h2'.1
      obtain ⟨b, hb, eb⟩ := nuB_nI (n := sh.F) (by omega) h2'.2
      have hab : k = 110 → b = a := fun h => by
        rw [joO, if_pos h, ea] at eb
        exact (nI_i eb (by omega) (by omega)).symm
      have hyb : ¬ k = 110 → y = nI b := fun h => by rw [joO, if_neg h] at eb; exact eb
      rw [eb, ea, nn_nI (by omega), nn_nI (by omega)]
      have v5a : V (300 + a) 5 = cm 22 0 a := (hF.2.2 a ha).2.1
      have v5b : V (300 + b) 5 = cm 22 0 b := (hF.2.2 b hb).2.1
      have eN : (cm 22 0 a + if k = 110 then 0 else cm 22 0 (nn y)) = joN V k a b := by
        rw [joN, v5a, v5b]
        by_cases h : k = 110
        · rw [if_pos h, if_pos h, Int32.add_zero]
        · rw [if_neg h, if_neg h, hyb h, nn_nI (by omega)]
      rw [eN]
      have e30 : (cm 3 0 0 = 30) = (sh.F = 30) := by rw [hF3]; exact propext (nI_eqq (b := 30) (by omega) (by omega))
      refine ⟨fun h3 => ?_, fun h3 => ?_⟩
      · rw [if_pos (by rw [e30]; exact h3)]; dsimp only; exact ⟨thr_49t, ((H.th _ _).th _ _).th _ _⟩
      · have h3' : ¬ (sh.F = 30 ∨ 12 < joN V k a b) := h3
        rw [if_neg (by rw [e30]; exact h3')]
        obtain ⟨n1, n2, n3, n4, n5, n6, n7⟩ := nfC_e (cm := thr (thr (thr cm false 1) false 2) false 3) (kd := k) (a := nI a) (b := if k = 110 then 0 else y) (m := joN V k a b) (F := sh.F) (by rw [thr_nq (by decide), thr_nq (by decide), thr_nq (by decide)]; exact hF3) (by omega)
        have hF' : FR (thr (thr (thr cm false 1) false 2) false 3) sh V := hF.cm fun q hq => by rw [thr_nq (by omega), thr_nq (by omega), thr_nq (by omega)]
        refine ⟨?_, by dsimp only; rw [hF3], ?_⟩
        · dsimp only; rw [n7 49 (by decide) (by decide)]; exact thr_49f
        · exact fil_R (((H.th false 1).th false 2).th false 3) (by omega) n1 (fun q h3 hq _ => n7 q h3 hq) n6 (FR1.jn hF' (by omega) n6 hJ ha hb hab n2 n3 (fun h => n4.trans (by rw [if_neg h]; exact hyb h)) n5)
theorem opOk_K {y z w : Int32} : opOk y z w = opK y z w := by
  have e1 : inR y (-1) 3 = (decide (y = -1) || colB y) := by
    rw [inR, colB, Bool.eq_iff_iff]
    simp only [Bool.and_eq_true, Bool.or_eq_true, decide_eq_true_eq, i32_le, i32_lt, i32_eq, show (-1 : Int32).toInt = -1 from by decide, show (3 : Int32).toInt = 3 from rfl, show (4 : Int32).toInt = 4 from rfl, show (0 : Int32).toInt = 0 from rfl]
    omega
  rw [opOk, opK, e1, inR_col, inR]
theorem opn_cnt {cm : CM} {cl : CL} {sh : Sh} {V : CV} {L : Int64} {M : Nat} (H : SR cm cl sh V L M) : ∃ m, opN cm = nI m ∧ m ≤ 4 ∧ cntN (fun s => !decide (cm 33 0 s = 0)) sh.S + m = sh.S ∧ cm 4 0 0 = nI sh.S := by
  obtain ⟨R, G, P, Dn, w, W, hRd, hP, -⟩ := H
  obtain ⟨-, -, -, -, -, -, -, -, -, -, e4, hS, -, -, hDn, -⟩ := hRd
  have key : ∀ n, sumI (opF cm) n = nI (n - cntN (fun s => !decide (cm 33 0 s = 0)) n) := by
    intro n
    induction n with
    | zero => rfl
    | succ n ih =>
      have hle := cntN_le (fun s => !decide (cm 33 0 s = 0)) n
      rw [sumI, ih, cntN, opF]
      by_cases h : cm 33 0 n = 0
      · rw [if_pos h, decide_eq_true h, if_neg (show ¬ (!true) = true by decide), show (1 : Int32) = nI 1 from rfl, nI_add]
        congr 1; omega
      · rw [if_neg h, decide_eq_false h, if_pos (show (!false) = true by decide), Int32.add_zero]
        congr 1; omega
  have hle := cntN_le (fun s => !decide (cm 33 0 s = 0)) sh.S
  refine ⟨sh.S - cntN (fun s => !decide (cm 33 0 s = 0)) sh.S, by rw [opN, e4, nn_nI (by omega)]; exact key _, ?_, by omega, e4⟩
  rw [← hDn]
  have := hP.2.2
  omega
theorem P_open {cm : CM} {cl : CL} {sh : Sh} {V : CV} {L : Int64} {M : Nat} (H : SR cm cl sh V L M) (x y z w : Int32) :
    Cls [(fsH sh x = false, 1), (opK y z w = false, 2), ((4 ≤ sumI (opC V) sh.S ∨ sh.S = 40), 3)] ((opM cm x y z w).2 49 0 0 = 0 ∧ nI sh.S = (opM cm x y z w).1 ∧ SR (opM cm x y z w).2 cl (sXS sh (nn (V 1 2)) (nn (V 1 3))) (opV2 sh V (nn (V 1 2)) x y z w) L M) (fun q => (opM cm x y z w).2 49 0 0 = q ∧ SR (opM cm x y z w).2 cl sh V L M) := by
  obtain ⟨e1, -⟩ := H.chk x 0
  obtain ⟨hF, hF3, hF30⟩ := H.fil
  obtain ⟨o1, -⟩ := H.op
  obtain ⟨m, hm, hm4, hcnt, e4⟩ := opn_cnt H
  obtain ⟨-, ⟨-, hS40⟩, -⟩ := H.cp
  rw [opM, e1, opOk_K, ← o1]
  refine ⟨fun h => ?_, fun h => ?_⟩
  · rw [show fsH sh x = false from h, Bool.not_false, if_pos rfl]; dsimp only; exact ⟨thr_49t, H.th _ _⟩
  · have h' : fsH sh x = true := by simpa using h
    rw [h', Bool.not_true, if_neg (by decide)]
    obtain ⟨j, hj, rfl⟩ := nuB_nI (by omega) h'
    refine ⟨fun h2 => ?_, fun h2 => ?_⟩
    · rw [if_pos (show opK y z w = false from h2)]; dsimp only; exact ⟨thr_49t, (H.th _ _).th _ _⟩
    · rw [if_neg (show ¬ opK y z w = false from h2)]
      have h2' : opK y z w = true := by simpa using h2
      have e44 : (4 ≤ opN cm) ↔ opN cm = 4 := by
        rw [hm]
        show nI 4 ≤ nI m ↔ nI m = nI 4
        rw [nI_leq (by omega) (by omega), nI_eqq (by omega) (by omega)]
        omega
      have e40 : cm 4 0 0 = 40 ↔ sh.S = 40 := by rw [e4]; exact nI_eqq (b := 40) (by omega) (by omega)
      refine ⟨fun h3 => ?_, fun h3 => ?_⟩
      · have h3' : 4 ≤ opN cm ∨ sh.S = 40 := h3
        by_cases h4 : opN cm = 4
        · rw [if_pos h4]; dsimp only; exact ⟨thr_49t, ((H.th _ _).th _ _).th _ _⟩
        · rw [if_neg h4, if_pos (e40.mpr (h3'.resolve_left fun q => h4 (e44.mp q)))]; dsimp only; exact ⟨thr_49t, ((H.th _ _).th _ _).th _ _⟩
      · have h3' : ¬ (4 ≤ opN cm ∨ sh.S = 40) := h3
        have h4 : ¬ opN cm = 4 := fun q => h3' (.inl (e44.mpr q))
        have hS : ¬ sh.S = 40 := fun q => h3' (.inr q)
        rw [if_neg h4, if_neg (fun q => hS (e40.mp q))]
        rw [opK, Bool.and_eq_true, Bool.or_eq_true, Bool.and_eq_true, decide_eq_true_eq, Bool.and_eq_true, decide_eq_true_eq, decide_eq_true_eq] at h2'
        obtain ⟨hy, hz, hw1, hw6⟩ := h2'
        obtain ⟨c, hc, rfl⟩ := colB_nI hz
        rw [i32_le, show (1 : Int32).toInt = 1 from rfl] at hw1
        rw [i32_le, show (6 : Int32).toInt = 6 from rfl] at hw6
        obtain ⟨y0, ey, ey2⟩ := nI_ps (x := w) (by omega)
        have hm4' : m ≠ 4 := fun e => h4 (by rw [hm, e]; rfl)
        have hq := opn_R (((H.th false 1).th false 2).th false 3) (by omega) hj (y := y) (z := nI c) (w := w) (by
          rcases hy with h | h
          · exact .inl h
          · obtain ⟨k, hk, e⟩ := colB_nI h
            exact .inr ⟨k, hk, e⟩) ⟨c, hc, rfl⟩ ey (by omega) (by omega) (by
          have e33 : ∀ s, thr (thr (thr cm false 1) false 2) false 3 33 0 s = cm 33 0 s := fun s => by rw [thr_nq (by decide), thr_nq (by decide), thr_nq (by decide)]
          simp only [e33]
          omega)
        have e4n : nn (cm 4 0 0) = sh.S := by rw [e4, nn_nI (by omega)]
        rw [e4n]
        refine ⟨?_, by dsimp only; rw [e4], hq⟩
        dsimp only
        rw [enC_q (by decide) (by decide) (by decide), (opA_e (S := sh.S) (by rw [thr_nq (by decide), thr_nq (by decide), thr_nq (by decide)]; exact e4) (by omega)).2.2.2.2.2.2.2.2 49 (by decide) (by decide)]
        exact thr_49f
theorem P_read {cm : CM} {cl : CL} {sh : Sh} {V : CV} {L : Int64} {M : Nat} (H : SR cm cl sh V L M) (x : Int32) :
    Cls [(inR x 1 40 = false, 1)] ((rdM cm cl x).1 49 0 0 = 0 ∧ nI (grO sh (nn x) (V, L)).2 = nI (rdM cm cl x).2.2 ∧ SR (rdM cm cl x).1 (rdM cm cl x).2.1 sh (grO sh (nn x) (V, L)).1.1 (grO sh (nn x) (V, L)).1.2 M) (fun q => (rdM cm cl x).1 49 0 0 = q ∧ SR (rdM cm cl x).1 (rdM cm cl x).2.1 sh V L M) := by
  obtain ⟨m, -, -, -, e4⟩ := opn_cnt H
  obtain ⟨-, ⟨-, hS40⟩, -⟩ := H.cp
  rw [rdM]
  refine ⟨fun h => ?_, fun h => ?_⟩
  · rw [if_pos (show inR x 1 40 = false from h)]; dsimp only; exact ⟨thr_49t, H.th _ _⟩
  · rw [if_neg (show ¬ inR x 1 40 = false from h), e4, nn_nI (by omega)]
    obtain ⟨q1, q2⟩ := read_R (H.th false 1) (nn x)
    refine ⟨?_, by rw [q2], q1⟩
    obtain ⟨R, G, P, Dn, w, W, hRd, hP, -, -, -, -, hLn, -, -, hOp, hCl⟩ := H.th false 1
    have hCe : sh.C = (R + 15) / 16 := hRd.2.2.2.2.2.1
    have hR := hRd.1.1
    obtain ⟨-, -, -, i4, -, -⟩ := rd_x (by omega) (nn x) (thr cm false 1) cl V L P Dn hRd hP.1 hP.2.1 hLn hOp hCl
    rw [i4 49 0 0 (by decide) (by decide) fun s _ ho => by rw [own] at ho; omega]
    exact thr_49f
/-- what reading stands upon, on both sides -/
theorem read_pre {cm : CM} {cl : CL} {sh : Sh} {V : CV} {L : Int64} {M : Nat} (H : SR cm cl sh V L M) : (∃ (S : Nat) (I : CM → Prop), S ≤ 40 ∧ RdOk S I ∧ I (thr cm false 1)) ∧ ∃ J : CV → Prop, RrOk sh J ∧ J V := by
  obtain ⟨R, G, P, Dn, w, W, hRd, hP, -⟩ := H
  have hCe : sh.C = (R + 15) / 16 := hRd.2.2.2.2.2.1
  have hR := hRd.1.1
  obtain ⟨I, i1, i2⟩ := rd_pre (hRd.th false 1) (by omega) hP.1
  have hd := hRd.D
  exact ⟨⟨sh.S, I, hd.2, i1, i2⟩, gr_pre hRd (by omega) hP.1 hP.2.1⟩
theorem tg_eq {y : Int32} {z : Nat} (hz : z < 2147483648) : inR y 1 (nI z - 1) = tgB y (nI z) := by
  rw [inR, tgB]
  congr 1
  rw [decide_eq_decide]
  cases z with
  | zero =>
    rw [i32_le, i32_lt, show (nI 0 - 1).toInt = -1 from by decide, show (nI 0).toInt = 0 from by decide]
    omega
  | succ m =>
    rw [nI_m1 (by omega), Nat.add_sub_cancel, i32_le, i32_lt, nI_ti (by omega), nI_ti (by omega)]
    omega
/-- what is asked of a scan -/
theorem SR.scn {cm : CM} {cl : CL} {sh : Sh} {V : CV} {L : Int64} {M : Nat} (H : SR cm cl sh V L M) (x : Int32) (h : nuB sh.S x = true) : ∃ s R Dn, x = nI s ∧ s < sh.S ∧ s < 40 ∧ R ≤ 160 ∧ Dn < 1000 ∧ ScG cm sh V R M s Dn ∧ V (400 + 20 * s) 9 = cm 30 0 s ∧ V (400 + 20 * s + 6) 3 = cm 31 0 s ∧ V (400 + 20 * s + 6) 4 = cm 32 0 s ∧ V (400 + 20 * s + 6) 2 = cm 26 0 s ∧ (V (400 + 20 * s) 10 = -1 ↔ cm 33 0 s = 0) ∧ (0 < cm 33 0 s ↔ ¬ cm 33 0 s = 0) ∧ (∃ y, y ≤ 6 ∧ cm 26 0 s = nI y) := by
  obtain ⟨R, G, P, Dn, w, W, hRd, -⟩ := H
  have hd := hRd.D
  obtain ⟨s, hs, rfl⟩ := nuB_nI (by omega) h
  obtain ⟨hT, -, -, -, -, -, -, -, -, -, -, -, -, -, -, hSc⟩ := hRd
  have hg := hSc s hs
  obtain ⟨v1, v2, v3, v4, v5, v6, -⟩ := hg.vals (by omega)
  obtain ⟨j, ns, ts, x', y, -, -, -, ⟨-, n, h4, -, ⟨-, -, e26, y1, y6, -⟩⟩, -⟩ := id hg
  exact ⟨s, R, Dn, rfl, hs, by omega, hT.1, by omega, hg, v1, v2, v3, v4, v5, v6, y, y6, e26⟩
theorem P_takeBack {cm : CM} {cl : CL} {sh : Sh} {V : CV} {L : Int64} {M : Nat} (H : SR cm cl sh V L M) (x y : Int32) :
    Cls [(nuB sh.S x = false, 1), (¬ V (400 + 20 * nn x) 10 = -1, 1), (tgB y (V (400 + 20 * nn x + 6) 2) = false, 2)] ((tbM cm x y).2 49 0 0 = 0 ∧ paU (400 + 20 * nn x + 6) (2 * y) 4 (c2 V (400 + 20 * nn x + 6) 2 y) (400 + 20 * nn x + 6) 3 - V (400 + 20 * nn x + 6) 3 = (tbM cm x y).1 ∧ SR (tbM cm x y).2 cl sh (paU (400 + 20 * nn x + 6) (2 * y) 4 (c2 V (400 + 20 * nn x + 6) 2 y)) L M) (fun q => (tbM cm x y).2 49 0 0 = q ∧ SR (tbM cm x y).2 cl sh V L M) := by
  obtain ⟨m, -, -, -, e4⟩ := opn_cnt H
  obtain ⟨-, ⟨-, hS40⟩, -⟩ := H.cp
  rw [tbM, e4, inR_nu (by omega)]
  refine ⟨fun h => ?_, fun h => ?_⟩
  · rw [show nuB sh.S x = false from h, Bool.false_and, if_pos rfl]; dsimp only; exact ⟨thr_49t, H.th _ _⟩
  · have h' : nuB sh.S x = true := by simpa using h
    obtain ⟨s, R, Dn, rfl, hs, hs40, hR, hDn, hg, v1, v2, v3, v4, v5, v6, z, z6, ez⟩ := H.scn x h'
    rw [h', Bool.true_and, nn_nI (by omega)]
    refine ⟨fun h2 => ?_, fun h2 => ?_⟩
    · have h2' : ¬ cm 33 0 s = 0 := fun q => h2 (v5.mpr q)
      rw [decide_eq_true (v6.mpr h2'), Bool.not_true, if_pos rfl]; dsimp only; exact ⟨thr_49t, H.th _ _⟩
    · have h2' : cm 33 0 s = 0 := v5.mp (Classical.byContradiction h2)
      rw [decide_eq_false (fun q => v6.mp q h2'), Bool.not_false, if_neg (by decide), v4, ez, tg_eq (by omega)]
      refine ⟨fun h3 => ?_, fun h3 => ?_⟩
      · rw [if_pos (show tgB y (nI z) = false from h3)]; dsimp only; exact ⟨thr_49t, (H.th _ _).th _ _⟩
      · have h3' : tgB y (nI z) = true := by simpa using h3
        rw [if_neg (show ¬ tgB y (nI z) = false from h3)]
        rw [tgB, Bool.and_eq_true, decide_eq_true_eq, decide_eq_true_eq, i32_le, i32_lt, nI_ti (by omega), show (1 : Int32).toInt = 1 from rfl] at h3'
        obtain ⟨q, e, e2⟩ := nI_ps (x := y) (by omega)
        subst e
        have hT := tb_SR (s := s) (z := q) ((H.th false 1).th false 2) hs (by omega) (by omega)
        obtain ⟨R', G, P, Dn', w, W, hRd, -⟩ := (H.th false 1).th false 2
        obtain ⟨-, -, t3, -⟩ := tb_R hRd hs (z := q) (by omega) (by omega)
        refine ⟨?_, ?_, hT⟩
        · dsimp only
          rw [tbC_q (by decide) (by decide) (by decide) (by decide), c3_n (by decide)]
          exact thr_49f
        · dsimp only
          rw [t3, v2]
theorem tb_pre {cm : CM} {cl : CL} {sh : Sh} {V : CV} {L : Int64} {M : Nat} (H : SR cm cl sh V L M) : SOk cm ∧ (∀ a, a < nn (cm 4 0 0) → Nb (cm 34 0 a) 160 ∧ (∀ g, b01 (cm 44 a g)) ∧ ∀ z : Int32, inR z 1 (cm 26 0 a - 1) = true → tbS (c3 (thr (thr cm false 1) false 2) 26 0 a z) a (2 * z)) := by
  obtain ⟨-, -, hSO, -⟩ := H.rp
  refine ⟨hSO, fun a ha => ?_⟩
  obtain ⟨m, -, -, -, e4⟩ := opn_cnt H
  obtain ⟨-, ⟨-, hS40⟩, -⟩ := H.cp
  rw [e4, nn_nI (by omega)] at ha
  obtain ⟨R', G, P, Dn', w, W, hRd, -⟩ := (H.th false 1).th false 2
  obtain ⟨R, G2, P2, Dn, w2, W2, hRd2, -⟩ := H
  have hR := hRd2.1.1
  obtain ⟨-, -, -, -, -, -, -, -, -, -, -, -, -, -, -, hSc⟩ := hRd2
  obtain ⟨j, ns, ts, x', y, a1, -, -, ⟨-, n, h4, gk, ⟨-, ⟨i1, i2⟩, e26, y1, y6, -⟩⟩, -⟩ := hSc a ha
  have hns : ns ≤ R := a1.2.2.2.2.2.2.2.2.2.2.2.1
  have hB : pas x' (fun r => aliveM cm r (nI ts)) ns ≤ ns := cntN_le _ ns
  have hn := gk.2.2.2.1
  refine ⟨⟨n, by omega, gk.2.1⟩, fun g => ?_, fun z hz => ?_⟩
  · by_cases hg : g < n
    · rw [i1 g hg]
      split
      · exact .inr rfl
      · exact .inl rfl
    · exact .inl (i2 g (by omega))
  · rw [e26, tg_eq (by omega), tgB, Bool.and_eq_true, decide_eq_true_eq, decide_eq_true_eq, i32_le, i32_lt, nI_ti (by omega), show (1 : Int32).toInt = 1 from rfl] at hz
    obtain ⟨q, e, e2⟩ := nI_ps (x := z) (by omega)
    subst e
    exact (tb_R hRd ha (z := q) (by omega) (by omega)).2.2.2
theorem P_load {cm : CM} {cl : CL} {sh : Sh} {V : CV} {L : Int64} {M : Nat} (H : SR cm cl sh V L M) (hM : M < 1000) (m x y z : Int32) :
    Cls [(ldOk m x y z = false, 1), (160 < nI (nn (V 1 2)) + m, 2)] ((ldM cm m x y z).2 49 0 0 = 0 ∧ nI (nn (V 1 2) + nn m) = (ldM cm m x y z).1 ∧ SR (ldM cm m x y z).2 cl (ldP x y z (nn m) (sh, V)).1 (ldE (ldP x y z (nn m) (sh, V)).2) L (M + 1)) (fun q => (ldM cm m x y z).2 49 0 0 = q ∧ SR (ldM cm m x y z).2 cl sh V L M) := by
  have h0 : cm 0 0 0 = nI (nn (V 1 2)) ∧ nn (V 1 2) ≤ 160 := by
    obtain ⟨R, G, P, Dn, w, W, hRd, hP, hMo, hNw, -⟩ := id H
    have hR := hRd.1.1
    rw [hNw.1.1, nn_nI (by omega)]
    exact ⟨hRd.1.2.2.2.1, hR⟩
  rw [ldM, h0.1]
  refine ⟨fun h => ?_, fun h => ?_⟩
  · rw [if_pos (show ldOk m x y z = false from h)]; dsimp only; exact ⟨thr_49t, H.th _ _⟩
  · have h' : ldOk m x y z = true := by simpa using h
    rw [if_neg (show ¬ ldOk m x y z = false from h)]
    refine ⟨fun h2 => ?_, fun h2 => ?_⟩
    · rw [if_pos (show 160 < nI (nn (V 1 2)) + m from h2)]; dsimp only; exact ⟨thr_49t, (H.th _ _).th _ _⟩
    · have h2' : ¬ 160 < nI (nn (V 1 2)) + m := h2
      rw [if_neg h2']
      rw [ldOk, Bool.and_eq_true, Bool.and_eq_true, Bool.and_eq_true] at h'
      obtain ⟨g1, -, -, g4⟩ := h'
      rw [inR, Bool.and_eq_true, decide_eq_true_eq, decide_eq_true_eq, i32_le, i32_le, show (1 : Int32).toInt = 1 from rfl, show (40 : Int32).toInt = 40 from rfl] at g1
      rw [inR, Bool.and_eq_true, decide_eq_true_eq, decide_eq_true_eq, i32_le, i32_le, show (1 : Int32).toInt = 1 from rfl, show (999 : Int32).toInt = 999 from by decide] at g4
      obtain ⟨m', em, em2⟩ := nI_ps (x := m) (by omega)
      obtain ⟨z0, ez, ez2⟩ := nI_ps (x := z) (by omega)
      have h2n : nn (V 1 2) + m' ≤ 160 := by
        rw [em, nI_add] at h2'
        exact Nat.le_of_not_lt fun q => h2' ((nI_ltq (a := 160) (by omega) (by omega)).mpr q)
      have emn : nn m = m' := by rw [em, nn_nI (by omega)]
      rw [emn]
      have hR := ld_R (x := x) (y := y) ((H.th false 1).th false 2) hM ez (by omega) (by omega) (m := m') (by omega) h2n
      have e1 : thr (thr cm false 1) false 2 1 0 0 = cm 1 0 0 := by rw [thr_nq (by decide), thr_nq (by decide)]
      rw [e1] at hR
      refine ⟨?_, ?_, hR⟩
      · dsimp only
        rw [tchC_n (by decide), ldC_n (by decide) (by decide) (by decide) (by decide) (by decide) (by decide) (by decide) (by decide) (by decide), c3_n (by decide)]
        exact thr_49f
      · dsimp only
        rw [em, nI_add]
/-- what the class's load stands upon -/
theorem ld_pre {cm : CM} {cl : CL} {sh : Sh} {V : CV} {L : Int64} {M : Nat} (H : SR cm cl sh V L M) : nn (V 1 2) ≤ 160 ∧ LdI sh V (nn (V 1 2)) := by
  obtain ⟨R, G, P, Dn, w, W, hRd, hP, hMo, hNw, -⟩ := id H
  obtain ⟨⟨hL4, -⟩, -, -, -, -, -, ⟨-, -, h3, h2⟩, -⟩ := H.cp
  have hR := hRd.1.1
  have e : nn (V 1 2) = R := by rw [hNw.1.1, nn_nI (by omega)]
  rw [e]
  obtain ⟨-, hF, -, -, -, hCe, hCk, -⟩ := hRd
  exact ⟨hR, hL4, hNw.1.1, h3, h2, hCe, hF.2.1, fun j hj => ⟨(hCk j hj).2.2.2.1, (hCk j hj).2.2.2.2.1, (hCk j hj).2.1⟩⟩
/-- what the class's open stands upon -/
theorem on_pre {cm : CM} {cl : CL} {sh : Sh} {V : CV} {L : Int64} {M : Nat} (H : SR cm cl sh V L M) : OnOk sh V (nn (V 1 2)) (nn (V 1 3)) ∧ (Nb (cm 4 0 0) 40 ∧ (nn (cm 4 0 0) < 40 → cm 34 0 (nn (cm 4 0 0)) = 0)) := by
  obtain ⟨R, G, P, Dn, w, W, hRd, hP, hMo, hNw, hWt, hFh, -⟩ := id H
  obtain ⟨⟨hL4, hC⟩, ⟨hL14, hS⟩, ⟨hFs, -⟩, -, -, -, ⟨-, -, h3, h2⟩, -⟩ := H.cp
  obtain ⟨m, -, -, -, e4⟩ := opn_cnt H
  have hR := hRd.1.1
  have hcl := cntN_le (fun r => decide (cm 9 0 r = 0)) R
  have e : nn (V 1 2) = R := by rw [hNw.1.1, nn_nI (by omega)]
  have e3 : nn (V 1 3) = cntN (fun r => decide (cm 9 0 r = 0)) R := by rw [hNw.2.2.1, nn_nI (by omega)]
  rw [e, e3]
  refine ⟨⟨hFs, hL14, hS, hL4, hC, hR, by omega, hNw.1.1, hNw.2.2.1, h2, h3, fun j hj => ?_⟩, ⟨sh.S, hS, e4⟩, fun h => ?_⟩
  · have := hNw.1.2.2.2.2.2.1 j hj
    show b01 (V 3 j)
    rw [this]; exact b2i_01 _
  · rw [e4, nn_nI (by omega)] at h ⊢
    exact (hFh.2.2 sh.S (Nat.le_refl _) h).2.1 34 (by omega) (by omega)


