-- deps: b3.simJ 25.mo5 34.mo13 35.mo14 70.gp7 71.gp8 73.gpa 77.gpe
/-! results -/
theorem P_scan {cm : CM} {cl : CL} {sh : Sh} {V : CV} {L : Int64} {M : Nat} (H : SR cm cl sh V L M) (x : Int32) {A : Int32 → Prop} (hA : ∀ s, x = nI s → s < sh.S → A x) :
    Cls [(nuB sh.S x = false, 1)] (thr cm (noScan cm x) 1 49 0 0 = 0 ∧ noScan cm x = false ∧ A x ∧ SR (thr cm (noScan cm x) 1) cl sh V L M) (fun k => thr cm (noScan cm x) 1 49 0 0 = k ∧ SR (thr cm (noScan cm x) 1) cl sh V L M) := by
  obtain ⟨-, e, -⟩ := H.chk x 0
  rw [e]
  refine ⟨fun h => ?_, fun h => ?_⟩
  · rw [show nuB sh.S x = false from h, Bool.not_false]; exact ⟨thr_49t, H.th _ _⟩
  · have h' : nuB sh.S x = true := by simpa using h
    obtain ⟨s, R, Dn, e, hs, -⟩ := H.scn x h'
    rw [h', Bool.not_true]
    exact ⟨thr_49f, rfl, hA s e hs, H.th _ _⟩
theorem P_isDone {cm : CM} {cl : CL} {sh : Sh} {V : CV} {L : Int64} {M : Nat} (H : SR cm cl sh V L M) (x : Int32) :
    Cls [(nuB sh.S x = false, 1)] (thr cm (noScan cm x) 1 49 0 0 = 0 ∧ (!decide (V (400 + 20 * nn x) 10 = -1)) = (!noScan cm x && decide (0 < cm 33 0 (nn x))) ∧ SR (thr cm (noScan cm x) 1) cl sh V L M) (fun k => thr cm (noScan cm x) 1 49 0 0 = k ∧ SR (thr cm (noScan cm x) 1) cl sh V L M) := by
  obtain ⟨-, e, -⟩ := H.chk x 0
  rw [e]
  refine ⟨fun h => ?_, fun h => ?_⟩
  · rw [show nuB sh.S x = false from h, Bool.not_false]; exact ⟨thr_49t, H.th _ _⟩
  · have h' : nuB sh.S x = true := by simpa using h
    obtain ⟨s, R, Dn, rfl, hs, hs40, hR, hDn, hg, v1, v2, v3, v4, v5, v6, -⟩ := H.scn x h'
    rw [h', Bool.not_true, nn_nI (by omega)]
    refine ⟨thr_49f, ?_, H.th _ _⟩
    rw [Bool.not_false, Bool.true_and, Bool.eq_iff_iff, Bool.not_eq_true', decide_eq_false_iff_not, decide_eq_true_eq, v5, v6]
theorem P_skipped {cm : CM} {cl : CL} {sh : Sh} {V : CV} {L : Int64} {M : Nat} (H : SR cm cl sh V L M) (x : Int32) :
    Cls [(nuB sh.S x = false, 1)] (thr cm (noScan cm x) 1 49 0 0 = 0 ∧ V (400 + 20 * nn x) 9 = (if noScan cm x then 0 else cm 30 0 (nn x)) ∧ SR (thr cm (noScan cm x) 1) cl sh V L M) (fun k => thr cm (noScan cm x) 1 49 0 0 = k ∧ SR (thr cm (noScan cm x) 1) cl sh V L M) := by
  obtain ⟨-, e, -⟩ := H.chk x 0
  rw [e]
  refine ⟨fun h => ?_, fun h => ?_⟩
  · rw [show nuB sh.S x = false from h, Bool.not_false]; exact ⟨thr_49t, H.th _ _⟩
  · have h' : nuB sh.S x = true := by simpa using h
    obtain ⟨s, R, Dn, rfl, hs, hs40, hR, hDn, hg, v1, v2, v3, v4, v5, v6, -⟩ := H.scn x h'
    rw [h', Bool.not_true, nn_nI (by omega), if_neg (by decide)]
    exact ⟨thr_49f, v1, H.th _ _⟩
theorem P_spilled {cm : CM} {cl : CL} {sh : Sh} {V : CV} {L : Int64} {M : Nat} (H : SR cm cl sh V L M) (x : Int32) :
    Cls [(nuB sh.S x = false, 1)] (thr cm (noScan cm x) 1 49 0 0 = 0 ∧ V (400 + 20 * nn x + 6) 3 = (if noScan cm x then 0 else cm 31 0 (nn x)) ∧ SR (thr cm (noScan cm x) 1) cl sh V L M) (fun k => thr cm (noScan cm x) 1 49 0 0 = k ∧ SR (thr cm (noScan cm x) 1) cl sh V L M) := by
  obtain ⟨-, e, -⟩ := H.chk x 0
  rw [e]
  refine ⟨fun h => ?_, fun h => ?_⟩
  · rw [show nuB sh.S x = false from h, Bool.not_false]; exact ⟨thr_49t, H.th _ _⟩
  · have h' : nuB sh.S x = true := by simpa using h
    obtain ⟨s, R, Dn, rfl, hs, hs40, hR, hDn, hg, v1, v2, v3, v4, v5, v6, -⟩ := H.scn x h'
    rw [h', Bool.not_true, nn_nI (by omega), if_neg (by decide)]
    exact ⟨thr_49f, v2, H.th _ _⟩
theorem P_aside {cm : CM} {cl : CL} {sh : Sh} {V : CV} {L : Int64} {M : Nat} (H : SR cm cl sh V L M) (x : Int32) :
    Cls [(nuB sh.S x = false, 1)] (thr cm (noScan cm x) 1 49 0 0 = 0 ∧ V (400 + 20 * nn x + 6) 4 = (if noScan cm x then 0 else cm 32 0 (nn x)) ∧ SR (thr cm (noScan cm x) 1) cl sh V L M) (fun k => thr cm (noScan cm x) 1 49 0 0 = k ∧ SR (thr cm (noScan cm x) 1) cl sh V L M) := by
  obtain ⟨-, e, -⟩ := H.chk x 0
  rw [e]
  refine ⟨fun h => ?_, fun h => ?_⟩
  · rw [show nuB sh.S x = false from h, Bool.not_false]; exact ⟨thr_49t, H.th _ _⟩
  · have h' : nuB sh.S x = true := by simpa using h
    obtain ⟨s, R, Dn, rfl, hs, hs40, hR, hDn, hg, v1, v2, v3, v4, v5, v6, -⟩ := H.scn x h'
    rw [h', Bool.not_true, nn_nI (by omega), if_neg (by decide)]
    exact ⟨thr_49f, v3, H.th _ _⟩
/-- of a result: N what holds when it is done -/
theorem P_res {cm : CM} {cl : CL} {sh : Sh} {V : CV} {L : Int64} {M : Nat} (H : SR cm cl sh V L M) (x : Int32) {r : List (Prop × Int32)} {N : Prop} {E : Int32 → Prop}
    (h1 : noRes cm x = true → SR (noResC cm x) cl sh V L M → E (noResC cm x 49 0 0))
    (h2 : ∀ s R n, x = nI s → s < 40 → R ≤ 160 → n ≤ 160 → noRes cm x = false → noResC cm x 49 0 0 = 0 → SR (noResC cm x) cl sh V L M → cm 34 0 s = nI n → V (400 + 20 * s + 4) 1 = nI n → (∀ i, i < n → ∃ g, g < n ∧ cm 51 s i = nI g ∧ vl (cm 38 s g) ∧ ∀ w, w < 6 → V (400 + 20 * s + 4 + 1) (6 * i + w) = rsF cm s g w) → (∀ g, g < n → ∃ a, a ≤ 1000 ∧ cm 40 s g = nI a) → Cls r N E) :
    Cls ((nuB sh.S x = false, 1) :: (V (400 + 20 * nn x) 10 = -1, 2) :: r) N E := by
  obtain ⟨-, e, -⟩ := H.chk x 0
  have hSR : SR (noResC cm x) cl sh V L M := by
    rw [noResC]; split
    · exact H.th _ _
    · exact (H.th _ _).th _ _
  refine ⟨fun h => ?_, fun h => ?_⟩
  · have hb : nuB sh.S x = false := h
    have := h1 (by rw [noRes, e, hb]; rfl) hSR
    rw [noResC, e, hb, Bool.not_false, if_pos rfl, thr_49t] at this
    exact this
  · have h' : nuB sh.S x = true := by simpa using h
    obtain ⟨s, R, Dn, rfl, hs, hs40, hR, hDn, hg, v1, v2, v3, v4, v5, v6, -⟩ := H.scn x h'
    have en : nn (nI s) = s := nn_nI (by omega)
    have eR : noRes cm (nI s) = decide (cm 33 0 s = 0) := by rw [noRes, e, h', en]; rfl
    have eC : noResC cm (nI s) = thr (thr cm false 1) (decide (cm 33 0 s = 0)) 2 := by rw [noResC, e, h', en]; rfl
    refine ⟨fun hd => ?_, fun hd => ?_⟩
    · have hd' : cm 33 0 s = 0 := by rw [en] at hd; exact v5.mp hd
      have := h1 (by rw [eR, hd']; rfl) hSR
      rw [eC, hd', decide_eq_true rfl, thr_49t] at this
      exact this
    · have hd' : ¬ cm 33 0 s = 0 := by rw [en] at hd; exact fun q => hd (v5.mpr q)
      obtain ⟨n, hn, q1, q2, q3⟩ := hg.at hR hd'
      refine h2 s R n rfl hs40 hR hn (by rw [eR, decide_eq_false hd']) (by rw [eC, decide_eq_false hd', thr_49f]) hSR q1 q2 q3 ?_
      obtain ⟨j, ns, ts, x', y, a1, -, -, ⟨-, m, h4, gk, -⟩, -⟩ := hg
      have hns : ns ≤ R := a1.2.2.2.2.2.2.2.2.2.2.2.1
      have hB : pas x' (fun r => aliveM cm r (nI ts)) ns ≤ ns := cntN_le _ ns
      have hm := gk.2.2.2.1
      have emn : m = n := nI_i (gk.2.1.symm.trans q1) (by omega) (by omega)
      subst emn
      intro g hg'
      obtain ⟨a, ha, ea⟩ := gk.2.2.2.2.1 g hg'
      exact ⟨a, by omega, ea⟩
theorem P_groups {cm : CM} {cl : CL} {sh : Sh} {V : CV} {L : Int64} {M : Nat} (H : SR cm cl sh V L M) (x : Int32) :
    Cls [(nuB sh.S x = false, 1), (V (400 + 20 * nn x) 10 = -1, 2)] (noResC cm x 49 0 0 = 0 ∧ V (400 + 20 * nn x + 4) 1 = (if noRes cm x then 0 else cm 34 0 (nn x)) ∧ SR (noResC cm x) cl sh V L M) (fun k => noResC cm x 49 0 0 = k ∧ SR (noResC cm x) cl sh V L M) := by
  refine P_res H x (fun _ h => ⟨rfl, h⟩) fun s R n e hs hR hn h1 h2 h3 q1 q2 q3 _ => ?_
  subst e
  rw [nn_nI (by omega), h1, if_neg (by decide), q1]
  exact ⟨h2, q2, h3⟩
theorem gi_eq {V : CV} {q n : Nat} (h : V q 1 = nI n) (y : Int32) : giB V q y = nuB n y := by rw [giB, h]; rfl
/-- of a group -/
theorem P_grp {cm : CM} {cl : CL} {sh : Sh} {V : CV} {L : Int64} {M : Nat} (H : SR cm cl sh V L M) (x y : Int32) {r : List (Prop × Int32)} {N : Prop} {E : Int32 → Prop}
    (h1 : noGrp cm x y = true → SR (noGrpC cm x y) cl sh V L M → E (noGrpC cm x y 49 0 0))
    (h2 : ∀ s i g, x = nI s → s < 40 → y = nI i → i < 160 → g < 160 → noGrp cm x y = false → noGrpC cm x y 49 0 0 = 0 → SR (noGrpC cm x y) cl sh V L M → cm 51 s i = nI g → vl (cm 38 s g) → (∀ w, w < 6 → V (400 + 20 * s + 4 + 1) (6 * i + w) = rsF cm s g w) → (∃ a, a ≤ 1000 ∧ cm 40 s g = nI a) → Cls r N E) :
    Cls ((nuB sh.S x = false, 1) :: (V (400 + 20 * nn x) 10 = -1, 2) :: (giB V (400 + 20 * nn x + 4) y = false, 3) :: r) N E := by
  refine P_res H x (fun hn h => ?_) fun s R n e hs hR hn a1 a2 a3 q1 q2 q3 q4 => ?_
  · have := h1 (by rw [noGrp, hn]; rfl) (by rw [noGrpC, if_pos hn]; exact h)
    rw [noGrpC, if_pos hn] at this
    exact this
  · subst e
    have en : nn (nI s) = s := nn_nI (by omega)
    have eI : inR y 0 (cm 34 0 s - 1) = nuB n y := by rw [q1, inR_nu (by omega)]
    have eC : noGrpC cm (nI s) y = thr (noResC cm (nI s)) (!nuB n y) 3 := by rw [noGrpC, a1, en, eI]; rfl
    have eN : noGrp cm (nI s) y = !nuB n y := by rw [noGrp, a1, en, eI, Bool.false_or]
    have hSR : SR (noGrpC cm (nI s) y) cl sh V L M := by rw [eC]; exact a3.th _ _
    have eg : giB V (400 + 20 * nn (nI s) + 4) y = nuB n y := by rw [en]; exact gi_eq q2 y
    refine ⟨fun hb => ?_, fun hb => ?_⟩
    · have hb' : nuB n y = false := by rw [← eg]; exact hb
      have := h1 (by rw [eN, hb']; rfl) hSR
      rw [eC, hb', Bool.not_false, thr_49t] at this
      exact this
    · have hb' : nuB n y = true := by
        have : ¬ nuB n y = false := by rw [← eg]; exact hb
        simpa using this
      obtain ⟨i, hi, rfl⟩ := nuB_nI (by omega) hb'
      obtain ⟨g, hg, e51, hv, hrec⟩ := q3 i hi
      exact h2 s i g rfl hs rfl (by omega) (by omega) (by rw [eN, hb']; rfl) (by rw [eC, hb', Bool.not_true, thr_49f]) hSR e51 hv hrec (q4 g hg)
theorem P_keyAt {cm : CM} {cl : CL} {sh : Sh} {V : CV} {L : Int64} {M : Nat} (H : SR cm cl sh V L M) (x y : Int32) :
    Cls [(nuB sh.S x = false, 1), (V (400 + 20 * nn x) 10 = -1, 2), (giB V (400 + 20 * nn x + 4) y = false, 3)] (noGrpC cm x y 49 0 0 = 0 ∧ (if V (400 + 20 * nn x + 4 + 1) (6 * nn y) = -1000 then 1000 else V (400 + 20 * nn x + 4 + 1) (6 * nn y)) = (if noGrp cm x y then 0 else if cm 38 (nn x) (nn (cm 51 (nn x) (nn y))) = 5000 then 1000 else cm 38 (nn x) (nn (cm 51 (nn x) (nn y)))) ∧ SR (noGrpC cm x y) cl sh V L M) (fun k => noGrpC cm x y 49 0 0 = k ∧ SR (noGrpC cm x y) cl sh V L M) := by
  refine P_grp H x y (fun _ h => ⟨rfl, h⟩) fun s i g e hs e' hi hg h1 h2 h3 e51 hv hrec _ => ?_
  subst e; subst e'
  have e0 : V (400 + 20 * s + 4 + 1) (6 * i) = mp (cm 38 s g) := hrec 0 (by omega)
  rw [h1, if_neg (show ¬ false = true by decide), nn_nI (by omega), nn_nI (by omega), e51, nn_nI (by omega), e0]
  refine ⟨h2, ?_, h3⟩
  by_cases h5 : cm 38 s g = 5000
  · rw [if_pos h5, if_pos ((vl_mp hv).1.mpr h5)]
  · rw [if_neg h5, if_neg (fun q => h5 ((vl_mp hv).1.mp q)), (vl_mp hv).2.1 h5]
theorem P_total {cm : CM} {cl : CL} {sh : Sh} {V : CV} {L : Int64} {M : Nat} (H : SR cm cl sh V L M) (x y w : Int32) :
    Cls [(nuB sh.S x = false, 1), (V (400 + 20 * nn x) 10 = -1, 2), (giB V (400 + 20 * nn x + 4) y = false, 3), (nuB 3 w = false, 4)] ((totM cm x y w).2 49 0 0 = 0 ∧ V (400 + 20 * nn x + 4 + 1) (6 * nn y + (nn w + 1)) = (totM cm x y w).1 ∧ SR (totM cm x y w).2 cl sh V L M) (fun k => (totM cm x y w).2 49 0 0 = k ∧ SR (totM cm x y w).2 cl sh V L M) := by
  refine P_grp H x y (fun hn h => ?_) fun s i g e hs e' hi hg h1 h2 h3 e51 hv hrec _ => ?_
  · rw [totM, if_pos hn]; exact ⟨rfl, h⟩
  · have ew : inR w 0 2 = nuB 3 w := inR_nu (n := 3) (by omega) w
    rw [totM, h1, if_neg (show ¬ false = true by decide), ew]
    subst e; subst e'
    refine ⟨fun hb => ?_, fun hb => ?_⟩
    · rw [show nuB 3 w = false from hb, if_neg (by decide)]; dsimp only; exact ⟨thr_49t, h3.th _ _⟩
    · have hb' : nuB 3 w = true := by simpa using hb
      rw [hb', if_pos rfl, nn_nI (by omega), nn_nI (by omega), e51, nn_nI (by omega)]
      obtain ⟨q, hq, rfl⟩ := nuB_nI (by omega) hb'
      rw [nn_nI (by omega), hrec (q + 1) (by omega)]
      refine ⟨by dsimp only; exact thr_49f, ?_, h3.th _ _⟩
      dsimp only
      rcases (show q = 0 ∨ q = 1 ∨ q = 2 by omega) with rfl | rfl | rfl
      · rfl
      · rfl
      · rfl
theorem P_edge {cm : CM} {cl : CL} {sh : Sh} {V : CV} {L : Int64} {M : Nat} (H : SR cm cl sh V L M) (x y : Int32) (gr : Bool) :
    Cls [(nuB sh.S x = false, 1), (V (400 + 20 * nn x) 10 = -1, 2), (giB V (400 + 20 * nn x + 4) y = false, 3), (V (400 + 20 * nn x + 4 + 1) (6 * nn y + 2) = 0, 4)] ((edgM cm x y gr).2 49 0 0 = 0 ∧ V (400 + 20 * nn x + 4 + 1) (6 * nn y + (if gr then 5 else 4)) = (edgM cm x y gr).1 ∧ SR (edgM cm x y gr).2 cl sh V L M) (fun k => (edgM cm x y gr).2 49 0 0 = k ∧ SR (edgM cm x y gr).2 cl sh V L M) := by
  refine P_grp H x y (fun hn h => ?_) fun s i g e hs e' hi hg h1 h2 h3 e51 hv hrec _ => ?_
  · rw [edgM, if_pos hn]; exact ⟨rfl, h⟩
  · subst e; subst e'
    rw [edgM, h1, if_neg (show ¬ false = true by decide), nn_nI (by omega), nn_nI (by omega), e51, nn_nI (by omega)]
    have e2 : V (400 + 20 * s + 4 + 1) (6 * i + 2) = cm 40 s g := hrec 2 (by omega)
    rw [e2]
    refine ⟨fun hb => ?_, fun hb => ?_⟩
    · rw [if_pos (show cm 40 s g = 0 from hb)]; dsimp only; exact ⟨thr_49t, h3.th _ _⟩
    · have hb' : ¬ cm 40 s g = 0 := hb
      rw [if_neg hb']
      refine ⟨by dsimp only; exact thr_49f, ?_, h3.th _ _⟩
      dsimp only
      cases gr
      · rw [if_neg (by decide), if_neg (by decide), hrec 4 (by omega)]
        show (if cm 40 s g = 0 then 999 else cm 42 s g) = _
        rw [if_neg hb']
      · rw [if_pos rfl, if_pos rfl, hrec 5 (by omega)]
        show (if cm 40 s g = 0 then -999 else cm 43 s g) = _
        rw [if_neg hb']
/-! which results are kept -/
theorem SR.kp {cm : CM} {cl : CL} {sh : Sh} {V : CV} {L : Int64} {M : Nat} (H : SR cm cl sh V L M) {s : Nat} (hs : s < sh.S) : kpB V (400 + 20 * s) (nn (V (400 + 20 * s) 0)) = keptB cm s ∧ V (400 + 20 * s) 0 = cm 23 0 s ∧ V (400 + 20 * s) 1 = cm 24 0 s ∧ V (400 + 20 * s) 2 = cm 25 0 s := by
  obtain ⟨R, G, P, Dn, w, W, hRd, hP, hMo, hNw, hWt, hFh, hLn, hTc, hBs, hOp, hCl⟩ := H
  have hd := hRd.D
  refine ⟨(kept_eq hRd hMo hWt hTc hs).1, ?_⟩
  obtain ⟨-, -, -, -, -, -, -, -, -, -, -, -, -, -, -, hSc⟩ := hRd
  obtain ⟨-, -, -, -, -, -, v1, v2, v3, -⟩ := (hSc s hs).vals (by omega)
  exact ⟨v1, v2, v3⟩
theorem P_isKept {cm : CM} {cl : CL} {sh : Sh} {V : CV} {L : Int64} {M : Nat} (H : SR cm cl sh V L M) (x : Int32) :
    Cls [(nuB sh.S x = false, 1)] (thr cm (noScan cm x) 1 49 0 0 = 0 ∧ kpB V (400 + 20 * nn x) (nn (V (400 + 20 * nn x) 0)) = (!noScan cm x && keptB cm (nn x)) ∧ SR (thr cm (noScan cm x) 1) cl sh V L M) (fun k => thr cm (noScan cm x) 1 49 0 0 = k ∧ SR (thr cm (noScan cm x) 1) cl sh V L M) := by
  obtain ⟨-, e, -⟩ := H.chk x 0
  rw [e]
  refine ⟨fun h => ?_, fun h => ?_⟩
  · rw [show nuB sh.S x = false from h, Bool.not_false]; exact ⟨thr_49t, H.th _ _⟩
  · have h' : nuB sh.S x = true := by simpa using h
    obtain ⟨s, R, Dn, rfl, hs, hs40, -⟩ := H.scn x h'
    rw [h', Bool.not_true, nn_nI (by omega)]
    exact ⟨thr_49f, by rw [(H.kp hs).1]; rfl, H.th _ _⟩
theorem kf_eq {cm : CM} {cl : CL} {sh : Sh} {V : CV} {L : Int64} {M : Nat} (H : SR cm cl sh V L M) (x y z : Int32) : ∀ n, n ≤ sh.S → (kfN V x y z n = none ∧ keptF cm x y z n = -1) ∨ ∃ s, s < n ∧ kfN V x y z n = some s ∧ keptF cm x y z n = nI s := by
  intro n
  induction n with
  | zero => intro _; exact .inl ⟨rfl, rfl⟩
  | succ n ih =>
    intro hn
    obtain ⟨k1, k2, k3, k4⟩ := H.kp (s := n) (by omega)
    rw [kfN, keptF, k1, k2, k3, k4]
    by_cases h : keptB cm n = true ∧ cm 23 0 n = x ∧ cm 24 0 n = y ∧ cm 25 0 n = z
    · rw [if_pos h, if_pos ⟨h.2.1, h.2.2.1, h.2.2.2, h.1⟩]
      exact .inr ⟨n, by omega, rfl, rfl⟩
    · rw [if_neg h, if_neg (fun q => h ⟨q.2.2.2, q.1, q.2.1, q.2.2.1⟩)]
      rcases ih (by omega) with h1 | ⟨s, a, b⟩
      · exact .inl h1
      · exact .inr ⟨s, by omega, b⟩
theorem P_keptFor {cm : CM} {cl : CL} {sh : Sh} {V : CV} {L : Int64} {M : Nat} (H : SR cm cl sh V L M) (x y z : Int32) :
    Cls [(kfN V x y z sh.S = none, 1)] (thr cm (decide (keptF cm x y z (nn (cm 4 0 0)) < 0)) 1 49 0 0 = 0 ∧ nI ((kfN V x y z sh.S).getD 0) = (if keptF cm x y z (nn (cm 4 0 0)) < 0 then 0 else keptF cm x y z (nn (cm 4 0 0))) ∧ SR (thr cm (decide (keptF cm x y z (nn (cm 4 0 0)) < 0)) 1) cl sh V L M) (fun k => thr cm (decide (keptF cm x y z (nn (cm 4 0 0)) < 0)) 1 49 0 0 = k ∧ SR (thr cm (decide (keptF cm x y z (nn (cm 4 0 0)) < 0)) 1) cl sh V L M) := by
  obtain ⟨m, -, -, -, e4⟩ := opn_cnt H
  obtain ⟨-, ⟨-, hS40⟩, -⟩ := H.cp
  rw [e4, nn_nI (by omega)]
  rcases kf_eq H x y z sh.S (Nat.le_refl _) with ⟨h1, h2⟩ | ⟨s, hs, h1, h2⟩
  · rw [h1, h2]
    exact ⟨fun _ => ⟨thr_49t, H.th _ _⟩, fun h => absurd rfl h⟩
  · have hn : ¬ nI s < 0 := fun e => by
      rw [i32_lt, nI_ti (by omega), show (0 : Int32).toInt = 0 from rfl] at e
      omega
    rw [h1, h2, decide_eq_false hn, if_neg hn]
    exact ⟨fun h => absurd (show (some s : Option Nat) = none from h) (by simp), fun _ => ⟨thr_49f, rfl, H.th _ _⟩⟩
/-! sums -/
theorem P_sum {cm : CM} {cl : CL} {sh : Sh} {V : CV} {L : Int64} {M : Nat} (H : SR cm cl sh V L M) (x y : Int32) :
    Cls [(fsH sh x = false, 1), (colB y = false, 2)] (noSumC cm x y 49 0 0 = 0 ∧ (suT sh V (nn x) (nn y) (nn (V 1 2))).2 = smM cm x y ∧ SR (noSumC cm x y) cl sh (suT sh V (nn x) (nn y) (nn (V 1 2))).1 L M) (fun k => noSumC cm x y 49 0 0 = k ∧ SR (noSumC cm x y) cl sh V L M) := by
  obtain ⟨e1, -⟩ := H.chk x 0
  obtain ⟨hF, hF3, hF30⟩ := H.fil
  rw [smM, noSum, noSumC, e1, inR_col]
  refine ⟨fun h => ?_, fun h => ?_⟩
  · rw [show fsH sh x = false from h, Bool.not_false, if_pos rfl]; exact ⟨thr_49t, H.th _ _⟩
  · have h' : fsH sh x = true := by simpa using h
    obtain ⟨j, hj, rfl⟩ := nuB_nI (by omega) h'
    rw [h', Bool.not_true, if_neg (show ¬ false = true by decide), Bool.false_or]
    refine ⟨fun h2 => ?_, fun h2 => ?_⟩
    · rw [show colB y = false from h2, Bool.not_false]; exact ⟨thr_49t, (H.th _ _).th _ _⟩
    · have h2' : colB y = true := by simpa using h2
      obtain ⟨m, hm, rfl⟩ := colB_nI h2'
      rw [h2', Bool.not_true, if_neg (by decide), nn_nI (by omega), nn_nI (by omega)]
      have H' := (H.th false 1).th false 2
      have er : cm 0 0 0 = thr (thr cm false 1) false 2 0 0 0 := by rw [thr_nq (by decide), thr_nq (by decide)]
      refine ⟨thr_49f, ?_, H'.ask (fun _ _ => rfl) fun i h9 h11 h12 h13 _ _ => suT_n h9 h11 h12 h13 _⟩
      rw [er]
      obtain ⟨R, G, P, Dn, w, W, hRd, hP, hMo, hNw, -⟩ := H'
      have hR := hRd.1.1
      rw [hRd.1.2.2.2.1, hNw.1.1, nn_nI (by omega)]
      exact (su_eq hRd.1 hRd.2.1 hNw.1 hj hm R (Nat.le_refl _)).symm
theorem P_bound {cm : CM} {cl : CL} {sh : Sh} {V : CV} {L : Int64} {M : Nat} (H : SR cm cl sh V L M) (x y : Int32) (ab : Bool) :
    Cls [(fsH sh x = false, 1), (colB y = false, 2)] (noSumC cm x y 49 0 0 = 0 ∧ (buT sh V (nn x) (nn y) ab sh.C).2 = bdM cm x y ab ∧ SR (noSumC cm x y) cl sh (buT sh V (nn x) (nn y) ab sh.C).1 L M) (fun k => noSumC cm x y 49 0 0 = k ∧ SR (noSumC cm x y) cl sh V L M) := by
  obtain ⟨e1, -, -, -, eC, -⟩ := H.chk x 0
  obtain ⟨hF, hF3, hF30⟩ := H.fil
  obtain ⟨⟨-, hC10⟩, -⟩ := H.cp
  rw [bdM, noSum, noSumC, e1, inR_col, eC, nn_nI (show sh.C < 2147483648 by omega)]
  refine ⟨fun h => ?_, fun h => ?_⟩
  · rw [show fsH sh x = false from h, Bool.not_false, if_pos rfl]; exact ⟨thr_49t, H.th _ _⟩
  · have h' : fsH sh x = true := by simpa using h
    obtain ⟨j, hj, rfl⟩ := nuB_nI (by omega) h'
    rw [h', Bool.not_true, if_neg (show ¬ false = true by decide), Bool.false_or]
    refine ⟨fun h2 => ?_, fun h2 => ?_⟩
    · rw [show colB y = false from h2, Bool.not_false]; exact ⟨thr_49t, (H.th _ _).th _ _⟩
    · have h2' : colB y = true := by simpa using h2
      obtain ⟨m, hm, rfl⟩ := colB_nI h2'
      rw [h2', Bool.not_true, if_neg (by decide), nn_nI (by omega), nn_nI (by omega)]
      have H' := (H.th false 1).th false 2
      refine ⟨thr_49f, ?_, H'.ask (fun _ _ => rfl) fun i h9 _ _ _ _ _ => buT_n h9 _⟩
      obtain ⟨R, G, P, Dn, w, W, hRd, hP, hMo, hNw, -⟩ := H'
      have hCe : sh.C = (R + 15) / 16 := hRd.2.2.2.2.2.1
      exact (bu_eq hRd.1 hRd.2.1 hNw.1 hj hm sh.C (by omega) fun k hk => hRd.2.2.2.2.2.2.1 k hk).symm
/-! figures -/
theorem mask64 (r : UInt64) : (r &&& 0x7fffffffffffffff).toNat = r.toNat % 2 ^ 63 := by
  rw [UInt64.toNat_and, show (0x7fffffffffffffff : UInt64).toNat = 2 ^ 63 - 1 from rfl, Nat.and_two_pow_sub_one_eq_mod]
theorem mask32 (r : UInt32) : (r &&& 0x7fffffff).toNat = r.toNat % 2 ^ 31 := by
  rw [UInt32.toNat_and, show (0x7fffffff : UInt32).toNat = 2 ^ 31 - 1 from rfl, Nat.and_two_pow_sub_one_eq_mod]
theorem n64_of {r : UInt64} (h : Jvm.FP.Core.dIsNaN r = false) : vf_n64 r := by
  have h2 : ¬ 9218868437227405312 < r.toNat % 2 ^ 63 := fun q => by rw [(Jvm.FP.Core.isNaN_bits r).mpr q] at h; exact Bool.noConfusion h
  rw [vf_n64, UInt64.le_iff_toNat_le, mask64]
  show r.toNat % 2 ^ 63 ≤ 9218868437227405312
  omega
theorem n32_of {r : UInt32} (h : Jvm.FP.Core.fIsNaN r = false) : vf_n32 r := by
  have h2 : ¬ 2139095040 < r.toNat % 2 ^ 31 := fun q => by rw [(Jvm.FP.Core.isNaN_bits32 r).mpr q] at h; exact Bool.noConfusion h
  rw [vf_n32, UInt32.le_iff_toNat_le, mask32]
  show r.toNat % 2 ^ 31 ≤ 2139095040
  omega
theorem P_meanBits {cm : CM} {cl : CL} {sh : Sh} {V : CV} {L : Int64} {M : Nat} (H : SR cm cl sh V L M) : (¬ V 1 2 = 0 → Jvm.FP.Core.dIsNaN (mnD sh V) = false) ∧ mbD cm = mnD sh V ∧ cm 0 0 0 = V 1 2 ∧
    Cls [(V 1 2 = 0, 1)] (thr cm (decide (cm 0 0 0 = 0)) 1 49 0 0 = 0 ∧ mnD sh V = (if cm 0 0 0 = 0 then FP.dconst0 else mbD cm) ∧ SR (thr cm (decide (cm 0 0 0 = 0)) 1) cl sh V L M) (fun k => thr cm (decide (cm 0 0 0 = 0)) 1 49 0 0 = k ∧ SR (thr cm (decide (cm 0 0 0 = 0)) 1) cl sh V L M) := by
  obtain ⟨-, -, -, -, eC, -⟩ := H.chk 0 0
  obtain ⟨⟨-, hC10⟩, -⟩ := H.cp
  obtain ⟨R, G, P, Dn, w, W, hRd, hP, hMo, hNw, -⟩ := id H
  have hR := hRd.1.1
  have h0 := hRd.1.2.2.2.1
  have hCe : sh.C = (R + 15) / 16 := hRd.2.2.2.2.2.1
  have e12 : V 1 2 = nI R := hNw.1.1
  have e0 : cm 0 0 0 = V 1 2 := by rw [h0, e12]
  have eD : mbD cm = mnD sh V := by
    rw [mbD, mnD, eC, nn_nI (by omega), mb_eq hR h0 sh.C (by omega) fun k hk => hRd.2.2.2.2.2.2.1 k hk, e0]
  refine ⟨fun h => ?_, eD, e0, ?_⟩
  · rw [mnD]
    refine Jvm.FP.Core.ddiv_out ((Jvm.FP.Core.i2d_fin _).notNaN) (Jvm.FP.Core.i2d_fin _) fun hz => ?_
    rw [Jvm.FP.Core.zero_bits2] at hz
    refine Jvm.FP.Core.i2d_ne_zero ?_ hz
    rw [e12, show (4 : Int32) * nI R = nI (4 * R) from nI_4m R]
    intro q
    have := nI_i (b := 0) q (by omega) (by omega)
    exact h (by rw [e12, show R = 0 by omega]; rfl)
  · rw [e0, eD]
    refine ⟨fun h => ?_, fun h => ?_⟩
    · rw [decide_eq_true (show V 1 2 = 0 from h)]; exact ⟨thr_49t, H.th _ _⟩
    · have h' : ¬ V 1 2 = 0 := h
      rw [decide_eq_false h', if_neg h']
      exact ⟨thr_49f, rfl, H.th _ _⟩
theorem P_skippedShare {cm : CM} {cl : CL} {sh : Sh} {V : CV} {L : Int64} {M : Nat} (H : SR cm cl sh V L M) : (¬ sumI (shA V) sh.S = 0 → Jvm.FP.Core.fIsNaN (shD sh V) = false) ∧ shF cl = shD sh V ∧ (cl 47 = 0 ↔ sumI (shA V) sh.S = 0) ∧
    Cls [(sumI (shA V) sh.S = 0, 1)] (thr cm (decide (cl 47 = 0)) 1 49 0 0 = 0 ∧ shD sh V = (if cl 47 = 0 then FP.fconst0 else shF cl) ∧ SR (thr cm (decide (cl 47 = 0)) 1) cl sh V L M) (fun k => thr cm (decide (cl 47 = 0)) 1 49 0 0 = k ∧ SR (thr cm (decide (cl 47 = 0)) 1) cl sh V L M) := by
  obtain ⟨R, G, P, Dn, w, W, hRd, hP, hMo, hNw, -, -, ⟨-, a, b, l1, l2, l3⟩, -⟩ := id H
  have hd := hRd.D
  obtain ⟨-, -, -, -, -, -, -, -, -, -, -, -, -, -, -, hSc⟩ := hRd
  have hA : ∀ n, n ≤ sh.S → sumI (shA V) n = nI (sumN a n) ∧ sumI (shB V) n = nI (sumN b n) ∧ sumN a n ≤ 10 * n ∧ sumN b n ≤ 10 * n := by
    intro n
    induction n with
    | zero => intro _; exact ⟨rfl, rfl, Nat.zero_le _, Nat.zero_le _⟩
    | succ n ih =>
      intro hn
      obtain ⟨i1, i2, i3, i4⟩ := ih (by omega)
      obtain ⟨q1, q2, q3, q4⟩ := l1 n (by omega)
      obtain ⟨v1, -, -, -, -, -, -, -, -, v2, -⟩ := (hSc n (by omega)).vals (by omega)
      rw [sumI, sumI, sumN, sumN, i1, i2, shA, shB, v1, v2, q1, q2, nI_add, nI_add]
      exact ⟨rfl, rfl, by omega, by omega⟩
  obtain ⟨s1, s2, s3, s4⟩ := hA sh.S (Nat.le_refl _)
  have t64 : ∀ n : Nat, n ≤ 400 → (nI n).toInt64 = Int64.ofNat n := by
    intro n hn
    apply Int64.toInt_inj.mp
    rw [Int32.toInt_toInt64, nI_ti (by omega), Int64.toInt_ofNat_of_lt (by omega)]
  have ea : FP.i2f (sumI (shA V) sh.S) = FP.l2f (cl 47) := by rw [s1, l2, ← t64 _ (by omega)]; exact Jvm.FP.Core.i2f_l2f _
  have eb : FP.i2f (sumI (shB V) sh.S) = FP.l2f (cl 48) := by rw [s2, l3, ← t64 _ (by omega)]; exact Jvm.FP.Core.i2f_l2f _
  have eF : shF cl = shD sh V := by rw [shF, shD, ea, eb]
  have e0 : cl 47 = 0 ↔ sumI (shA V) sh.S = 0 := by
    rw [l2, s1]
    constructor
    · intro h
      have := congrArg Int64.toInt h
      rw [Int64.toInt_ofNat_of_lt (by omega), show (0 : Int64).toInt = 0 from rfl] at this
      rw [show sumN a sh.S = 0 by omega]; rfl
    · intro h
      have := nI_i (b := 0) h (by omega) (by omega)
      rw [this]; rfl
  refine ⟨fun h => ?_, eF, e0, ?_⟩
  · rw [shD]
    refine Jvm.FP.Core.fdiv_out ((Jvm.FP.Core.i2f_fin _).notNaN) (Jvm.FP.Core.i2f_fin _) fun hz => ?_
    rw [Jvm.FP.Core.zero_bits232] at hz
    exact Jvm.FP.Core.i2f_ne_zero h hz
  · refine ⟨fun h => ?_, fun h => ?_⟩
    · rw [decide_eq_true (e0.mpr h)]; exact ⟨thr_49t, H.th _ _⟩
    · have h' : ¬ cl 47 = 0 := fun q => h (e0.mp q)
      rw [decide_eq_false h', if_neg h', eF]
      exact ⟨thr_49f, rfl, H.th _ _⟩
/-- what the class finds itself upon -/
theorem snd_pre {cm : CM} {cl : CL} {sh : Sh} {V : CV} {L : Int64} {M : Nat} (H : SR cm cl sh V L M) : (KhOk sh V ∧ LsOk sh V 4 ∧ sh.C ≤ 10 ∧ BsOk sh ∧ vlB sh (khT sh V sh.S) (nn (khT sh V sh.S 1 2)) = true) ∧ SR (thr cm false 0) cl sh (khT sh V sh.S) L M := by
  obtain ⟨⟨h1, h2⟩, ⟨h3, h4⟩, ⟨h5, h6, h7, h8⟩, ⟨h9, h10⟩, ⟨h11, -⟩, -, ⟨h12, h13, -⟩, -⟩ := H.cp
  obtain ⟨s1, s2⟩ := snd_eq H
  exact ⟨⟨⟨h3, h4, h5, h6, h10, h8, h12, h13, s1⟩, h1, h2, h11, s2⟩, (H.th _ _).ask (fun _ _ => rfl) fun i a b c d e f => khT_n a b c d e f _⟩
/-- what is plainly told -/
theorem SR.told {cm : CM} {cl : CL} {sh : Sh} {V : CV} {L : Int64} {M : Nat} (H : SR cm cl sh V L M) : V 0 7 = cm 1 0 0 ∧ V 0 8 = cm 5 0 0 ∧ cl 46 = L ∧ chN cm = nI sh.C := by
  obtain ⟨-, -, -, -, eC, -⟩ := H.chk 0 0
  obtain ⟨R, G, P, Dn, w, W, hRd, hP, hMo, hNw, -, -, hLn, -⟩ := H
  obtain ⟨hT, -, -, -, -, -, -, -, e5, v8, -⟩ := hRd
  exact ⟨by rw [hMo.1, hT.2.2.2.2.1], by rw [v8, e5], hLn.1, eC⟩


