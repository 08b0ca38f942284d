-- deps: 9x.simt 89.join
/-! another filter -/
theorem shr_or (x y s : Int32) : (x ||| y) >>> s = (x >>> s) ||| (y >>> s) := by
  apply Int32.toBitVec_inj.mp
  simp only [Int32.toBitVec_shiftRight, Int32.toBitVec_or, BitVec.sshiftRight_eq', BitVec.sshiftRight_or_distrib]
theorem or_and1 (a b : Int32) : (a ||| b) &&& 1 = (a &&& 1) ||| (b &&& 1) := by
  apply Int32.toBitVec_inj.mp
  simp only [Int32.toBitVec_and, Int32.toBitVec_or]
  ext i
  simp [Bool.and_or_distrib_right]
theorem ou_or (x y : Int32) (i : Nat) : ouB (x ||| y) i = (ouB x i && ouB y i) := by
  rw [ouB, ouB, ouB, shr_or, or_and1, Bool.eq_iff_iff, Bool.and_eq_true, decide_eq_true_eq, decide_eq_true_eq, decide_eq_true_eq, Int32.or_eq_zero_iff]
theorem ou_30 : ∀ a b : Fin 30, ouB ((1 : Int32) <<< (nI a &&& 31)) b = !decide (b = a) := by decide +kernel
theorem ou_1 {a b : Nat} (ha : a < 30) (hb : b < 30) : ouB ((1 : Int32) <<< (nI a &&& 31)) b = !decide (b = a) := by
  have := ou_30 ⟨a, ha⟩ ⟨b, hb⟩
  rw [this]
  congr 1
  simp only [Fin.mk.injEq]
theorem vF_n {sh : Sh} {V : CV} {v : Nat → Int32} {i : Nat} (h7 : i ≠ 7) (h : i ≠ 300 + sh.F) : vF sh V v i = V i := by rw [vF, if_neg h7, if_neg h]
theorem vF_e {sh : Sh} {V : CV} {v : Nat → Int32} : vF sh V v (300 + sh.F) = v := by rw [vF, if_neg (by omega), if_pos rfl]
theorem FR.add {cm cm' : CM} {sh : Sh} {V : CV} {v : Nat → Int32} (H : FR cm sh V) (hF : sh.F < 30) (e3 : cm' 3 0 0 = nI (sh.F + 1)) (e : ∀ k j, 19 ≤ k → k ≤ 22 → j < sh.F → cm' k 0 j = cm k 0 j) (hn : FR1 cm' (vF sh V v) sh.F) : FR cm' (sXF sh) (vF sh V v) := by
  refine ⟨e3, by show sh.F + 1 ≤ 30; omega, fun j hj => ?_⟩
  have hj' : j < sh.F + 1 := hj
  by_cases hjF : j = sh.F
  · subst hjF; exact hn
  · have hj2 : j < sh.F := by omega
    obtain ⟨h1, h2, h3, h4, h5, h6, h7⟩ := H.2.2 j hj2
    have ev : ∀ i, i < sh.F → vF sh V v (300 + i) = V (300 + i) := fun i hi => vF_n (by omega) (by omega)
    rw [FR1, ev j hj2, e 19 j (by omega) (by omega) hj2, e 20 j (by omega) (by omega) hj2, e 21 j (by omega) (by omega) hj2, e 22 j (by omega) (by omega) hj2]
    refine ⟨h1, h2, h3, h4, h5, fun c hc => ?_, fun i hi hb => ?_⟩
    · rw [about_j H (fun k j a b c => e k j a (by omega) c) (nI c) 30 j hj2]; exact h6 c hc
    · obtain ⟨g1, g2, g3⟩ := h7 i hi hb
      rw [ev i (by omega), e 19 i (by omega) (by omega) (by omega), e 20 i (by omega) (by omega) (by omega)]
      exact ⟨g1, g2, g3⟩
theorem FR1.cmp {cm' : CM} {sh : Sh} {V : CV} {k n : Int32} {c : Nat} (hF : sh.F < 30) (hk : k = 60 ∨ k = 61 ∨ k = 62 ∨ k = 109) (hc : c < 4) (e19 : cm' 19 0 sh.F = k) (e20 : cm' 20 0 sh.F = nI c) (e21 : cm' 21 0 sh.F = n) (e22 : cm' 22 0 sh.F = 1) : FR1 cm' (vF sh V (coV sh k (nI c) n)) sh.F := by
  have hJ : isJ (cm' 19 0 sh.F) = false := by rw [e19]; rcases hk with rfl | rfl | rfl | rfl <;> rfl
  have o7 : ∀ i, i < 30 → ouB (coV sh k (nI c) n 7) i = !decide (i = sh.F) := fun i hi => ou_1 hF hi
  have o6 : ∀ i, i < 30 → ouB (coV sh k (nI c) n 6) i = !decide (i = c) := fun i hi => ou_1 (by omega) hi
  rw [FR1, vF_e, o7 sh.F hF, hJ]
  refine ⟨e19.symm, e22.symm, by simp, fun h => Bool.noConfusion h, fun _ => ⟨by rw [e19]; exact hk, c, hc, e20, rfl, e21.symm⟩, fun x hx => ?_, fun i hi hb => ?_⟩
  · rw [o6 x (by omega), about, hJ]
    simp only [Bool.false_eq_true, if_false]
    rw [e20]
    congr 1
    rw [decide_eq_decide, nI_eqq (by omega) (by omega)]
    exact eq_comm
  · rw [o7 i hi] at hb
    have : i = sh.F := by simpa using hb
    subst this
    refine ⟨Nat.le_refl _, fun h => ?_, fun _ => ?_⟩
    · rw [hJ] at h; exact Bool.noConfusion h
    · rw [e20, nn_nI (by omega), o6 c (by omega)]; simp
theorem FR1.jn {cm cm' : CM} {sh : Sh} {V : CV} {k x : Int32} {a b : Nat} (H : FR cm sh V) (hF : sh.F < 30) (e : ∀ k j, 19 ≤ k → k ≤ 22 → j < sh.F → cm' k 0 j = cm k 0 j) (hk : isJ k = true) (ha : a < sh.F) (hb : b < sh.F) (hab : k = 110 → b = a) (e19 : cm' 19 0 sh.F = k) (e20 : cm' 20 0 sh.F = nI a) (e21 : ¬ k = 110 → cm' 21 0 sh.F = nI b) (e22 : cm' 22 0 sh.F = x) : FR1 cm' (vF sh V (joV sh V k a b x)) sh.F := by
  have ev : ∀ i, i < sh.F → vF sh V (joV sh V k a b x) (300 + i) = V (300 + i) := fun i hi => vF_n (by omega) (by omega)
  obtain ⟨-, -, ma, -, -, ca, da⟩ := H.2.2 a ha
  obtain ⟨-, -, mb, -, -, cb, db⟩ := H.2.2 b hb
  have o7 : ∀ i, i < 30 → ouB (joV sh V k a b x 7) i = ((ouB (V (300 + a) 7) i && ouB (V (300 + b) 7) i) && !decide (i = sh.F)) := fun i hi => by
    rw [show joV sh V k a b x 7 = ((V (300 + a) 7 ||| V (300 + b) 7) ||| ((1 : Int32) <<< (nI sh.F &&& 31))) from rfl, ou_or, ou_or, ou_1 hF hi]
  have o6 : ∀ i, ouB (joV sh V k a b x 6) i = (ouB (V (300 + a) 6) i && ouB (V (300 + b) 6) i) := fun i => by
    rw [show joV sh V k a b x 6 = (V (300 + a) 6 ||| V (300 + b) 6) from rfl, ou_or]
  rw [FR1, vF_e, o7 sh.F hF, e19, hk]
  refine ⟨rfl, e22.symm, by simp, fun _ => ⟨a, b, ha, hb, e20, rfl, rfl, hab, e21⟩, fun h => Bool.noConfusion h, fun c hc => ?_, fun i hi hb' => ?_⟩
  · have e' := about_j H (fun k j a b c => e k j a (by omega) c) (nI c) 29
    have h1 : about cm' (nI c) 30 sh.F = (about cm (nI c) 29 a || (!decide (k = 110) && about cm' (nI c) 29 (nn (cm' 21 0 sh.F)))) := by
      rw [about, e19, hk, e20, nn_nI (by omega), e' a ha]
      simp only [if_true]
    rw [o6, ca c hc, cb c hc, h1, about_d H (nI c) 30 a 29 30 (by omega) ha (by omega) (by omega)]
    by_cases h9 : k = 110
    · rw [hab h9, h9]; simp
    · rw [e21 h9, nn_nI (by omega), e' b hb, about_d H (nI c) 30 b 29 30 (by omega) hb (by omega) (by omega)]; simp [h9]
  · rw [o7 i hi] at hb'
    by_cases hiF : i = sh.F
    · subst hiF
      refine ⟨Nat.le_refl _, fun _ => ?_, fun h => ?_⟩
      · rw [vF_e]
        show ouB _ (nn (nI a)) = false ∧ ouB _ (nn (nI b)) = false
        rw [nn_nI (by omega), nn_nI (by omega), o7 a (by omega), o7 b (by omega), ma, mb]
        simp
      · rw [e19, hk] at h; exact Bool.noConfusion h
    · rw [decide_eq_false hiF, Bool.not_false, Bool.and_true, Bool.and_eq_false_iff] at hb'
      have key : i < sh.F ∧ (isJ (cm 19 0 i) = true → (ouB (V (300 + a) 7) (nn (V (300 + i) 3)) && ouB (V (300 + b) 7) (nn (V (300 + i) 3))) = false ∧ (ouB (V (300 + a) 7) (nn (V (300 + i) 4)) && ouB (V (300 + b) 7) (nn (V (300 + i) 4))) = false) ∧ (isJ (cm 19 0 i) = false → (ouB (V (300 + a) 6) (nn (cm 20 0 i)) && ouB (V (300 + b) 6) (nn (cm 20 0 i))) = false) := by
        rcases hb' with h | h
        · obtain ⟨g1, g2, g3⟩ := da i hi h
          exact ⟨by omega, fun hj => ⟨by rw [(g2 hj).1, Bool.false_and], by rw [(g2 hj).2, Bool.false_and]⟩, fun hj => by rw [g3 hj, Bool.false_and]⟩
        · obtain ⟨g1, g2, g3⟩ := db i hi h
          exact ⟨by omega, fun hj => ⟨by rw [(g2 hj).1, Bool.and_false], by rw [(g2 hj).2, Bool.and_false]⟩, fun hj => by rw [g3 hj, Bool.and_false]⟩
      obtain ⟨k1, k2, k3⟩ := key
      obtain ⟨-, -, -, ai, -, -, -⟩ := H.2.2 i k1
      refine ⟨by omega, fun hj => ?_, fun hj => ?_⟩
      · rw [e 19 i (by omega) (by omega) k1] at hj
        obtain ⟨p, q, hp, hq, -, ep, eq, -, -⟩ := ai hj
        have := k2 hj
        rw [ep, eq, nn_nI (by omega), nn_nI (by omega)] at this
        rw [ev i k1, ep, eq, nn_nI (by omega), nn_nI (by omega), o7 p (by omega), o7 q (by omega), this.1, this.2, Bool.false_and, Bool.false_and]
        exact ⟨rfl, rfl⟩
      · rw [e 19 i (by omega) (by omega) k1] at hj
        rw [e 20 i (by omega) (by omega) k1, o6]
        exact k3 hj
theorem LsOk_sh {sh sh' : Sh} {V W : CV} {o : Nat} (h : W o = V o) (h1 : lcn sh' o = lcn sh o) (h2 : sh'.N (o + 1) = sh.N (o + 1)) (H : LsOk sh V o) : LsOk sh' W o := by rw [LsOk, h, h1, h2]; exact H
theorem alG_le {n N : Nat} (h : n ≤ N) (hn : n < 45) (hN : N ≤ 1000) : n + 1 ≤ alG n N ∧ alG n N ≤ 1000 := by
  rw [alG]
  split
  · split
    · omega
    · have : 1 ≤ max 1 (N / 2) ∧ max 1 (N / 2) ≤ N := by omega
      omega
  · omega
theorem CkS.shc {cm : CM} {sh sh' : Sh} {V : CV} {R k : Nat} (H : CkS cm sh V R k) (h : ∀ i, 100 + 10 * k ≤ i → i < 110 + 10 * k → sh'.N i = sh.N i) : CkS cm sh' V R k := by
  rw [CkS, BdOk] at H ⊢
  rw [h _ (by omega) (by omega), h _ (by omega) (by omega), h _ (by omega) (by omega), h _ (by omega) (by omega)]
  exact H
theorem fil_R {cm cm' : CM} {cl : CL} {sh : Sh} {V : CV} {L : Int64} {M : Nat} {v : Nat → Int32} (H : SR cm cl sh V L M) (hF : sh.F < 30) (e3 : cm' 3 0 0 = nI (sh.F + 1)) (eF : ∀ k, k ≠ 3 → k < 19 ∨ 22 < k → k ≠ 49 → cm' k = cm k) (e : ∀ k j, 19 ≤ k → k ≤ 22 → j < sh.F → cm' k 0 j = cm k 0 j) (hn : FR1 cm' (vF sh V v) sh.F) : SR cm' cl (sXF sh) (vF sh V v) L M := by
  obtain ⟨R, G, P, Dn, w, W, hRd, hP, ⟨m1, m2, m3⟩, ⟨n1, n2, n3, n4, n5⟩, hWt, hFh, hLn, hTc, hBs, hOp, hCl⟩ := H
  have hts := hRd.ts
  have hscs := fun s hs => hRd.sc (s := s) hs
  obtain ⟨hT, hFR, hFs, hL14, hL4, hCe, hCk, hz, e5, v8, e4, hS, e45, v10, hDn, hSc⟩ := id hRd
  obtain ⟨hR, hM1, hG, h0, h1, h2, hTL, hTA⟩ := id hT
  have hV : ∀ i, i ≠ 7 → i ≠ 300 + sh.F → vF sh V v i = V i := fun i a b => vF_n a b
  have hN : ∀ i, i ≠ 8 → (sXF sh).N i = sh.N i := fun i hi => if_neg hi
  have hV7 : vF sh V v 7 2 = nI (sh.F + 1) := rfl
  have hF' := hFR.add hF e3 e hn
  have hE : TmE cm cm' R M := TmE.of fun k hk => eF k (by omega) (by omega) (by omega)
  have hsco := scans_ok (cm' := cm') (sh' := sXF sh) (W := vF sh V v) (R' := R) (M' := M) (S := sh.S) hRd hCl (Nat.le_refl _) (fun s _ => ScE.of fun k hk => eF k (by omega) (by omega) (by omega)) hE (fun k j h1 h2 h3 => e k j h1 (by omega) h3) (Nat.le_refl _) (by omega) (fun q t a b => by omega) (fun i a b => hV i (by omega) (by omega)) (Nat.le_succ _) (fun i _ _ => hN i (by omega))
  obtain ⟨⟨l1, l2, l3, l4⟩, f2, f3, f4⟩ := hFs
  have hlc : lcn sh 7 = sh.F := rfl
  rw [hlc] at l3
  have l3' : sh.F ≤ sh.N 8 := l3
  have hg := alG_le l3' (by omega) l4
  have tB : ∀ s, s < sh.S → ∀ x, tchB cm' x s = tchB cm x s := by
    intro s hs x
    obtain ⟨j, ts, j1, j2, -⟩ := hscs s hs
    have hab : about cm' x 30 j = about cm x 30 j := about_j hFR (fun k j a b c => e k j a (by omega) c) x 30 j j1
    rw [tchB, tchB, eF 23 (by omega) (by omega) (by omega), eF 24 (by omega) (by omega) (by omega), eF 25 (by omega) (by omega) (by omega), j2, nn_nI (by omega), hab]
  generalize vF sh V v = V' at *
  generalize hsh : sXF sh = sh' at *
  have eC : sh'.C = sh.C := by rw [← hsh]; rfl
  have eS : sh'.S = sh.S := by rw [← hsh]; rfl
  have eFF : sh'.F = sh.F + 1 := by rw [← hsh]; rfl
  have eN8 : sh'.N 8 = alG sh.F (sh.N 8) := by rw [← hsh]; rfl
  refine ⟨R, G, P, Dn, w, W, ⟨hT.ck fun k hk => eF k (by omega) (by omega) (by omega), hF', ⟨⟨l1, ?_, ?_, ?_⟩, ?_, ?_, ?_⟩, ?_, ?_, by rw [eC]; exact hCe, fun k hk => ?_, fun k ha hb x hx => ?_, ?_, ?_, ?_, by rw [eS]; exact hS, ?_, ?_, ?_, fun s hs => (hsco s (by omega)).1⟩, by rw [eC, eS]; exact hP, ⟨?_, ?_, fun x hx => ?_⟩, ⟨?_, by rw [hN 3 (by omega)]; exact n2, ?_, by rw [hN 17 (by omega)]; exact n4, by rw [hN 18 (by omega)]; exact n5⟩, ?_, ?_, ?_, ?_, ?_, ?_, fun s hs => (hsco s (by omega)).2⟩
  · show V' 7 2 = nI sh'.F
    rw [hV7, eFF]
  · show sh'.F ≤ sh'.N 8
    rw [eFF, eN8]; omega
  · show sh'.N 8 ≤ 1000
    rw [eN8]; omega
  · rw [hN 9 (by omega)]; exact f2
  · rw [BdOk, hN _ (by omega), hN _ (by omega), hN _ (by omega)]; exact f3
  · rw [eFF]; omega
  · exact LsOk_sh (hV 14 (by omega) (by omega)) (show sh'.S = sh.S from eS) (hN 15 (by omega)) hL14
  · exact LsOk_sh (hV 4 (by omega) (by omega)) (show sh'.C = sh.C from eC) (hN 5 (by omega)) hL4
  · rw [eC] at hk
    have hC10 : sh.C ≤ 10 := by omega
    have hc := ((hCk k hk).cg (W := V') fun i h1 h2 => hV i (by omega) (by omega)).shc (sh' := sh') fun i h1 h2 => hN i (by omega)
    rw [CkS] at hc ⊢
    simp only [BdS1, bv, eF 7 (by omega) (by omega) (by omega), eF 14 (by omega) (by omega) (by omega), eF 15 (by omega) (by omega) (by omega), eF 16 (by omega) (by omega) (by omega), eF 17 (by omega) (by omega) (by omega), eF 18 (by omega) (by omega) (by omega)] at hc ⊢
    exact hc
  · rw [eF 17 (by omega) (by omega) (by omega)]; exact hz k (by omega) hb x hx
  · rw [eF 5 (by omega) (by omega) (by omega)]; exact e5
  · rw [hV 0 (by omega) (by omega)]; exact v8
  · rw [eF 4 (by omega) (by omega) (by omega), eS]; exact e4
  · rw [eF 45 (by omega) (by omega) (by omega)]; exact e45
  · rw [hV 0 (by omega) (by omega)]; exact v10
  · rw [eF 33 (by omega) (by omega) (by omega), eS]; exact hDn
  · rw [hV 0 (by omega) (by omega)]; exact m1
  · rw [hV 0 (by omega) (by omega)]; exact m2
  · rw [hV 18 (by omega) (by omega)]; exact m3 x hx
  · exact n1.ce hE (Nat.le_refl _) (Nat.le_refl _) (hV 1 (by omega) (by omega)) (hV 2 (by omega) (by omega)) (hV 3 (by omega) (by omega)) (hN 2 (by omega)) (hN 3 (by omega))
  · rw [hV 1 (by omega) (by omega), eF 9 (by omega) (by omega) (by omega)]; exact n3
  · exact hWt.ck fun k hk => eF k (by omega) (by omega) (by omega)
  · have hf := hFh.ck (cm' := cm') fun k hk => eF k (by omega) (by omega) (by omega)
    rw [FhS, eC, eS]
    exact hf
  · rw [eS]; exact hLn.ck fun s hs => ⟨by rw [eF 29 (by omega) (by omega) (by omega)], by rw [eF 30 (by omega) (by omega) (by omega)]⟩
  · intro s hs
    rw [eS] at hs
    obtain ⟨ts, t1, t2, t3, t4⟩ := hTc s hs
    refine ⟨ts, t1, by rw [eF 27 (by omega) (by omega) (by omega)]; exact t2, by rw [eF 50 (by omega) (by omega) (by omega)]; exact t3, ?_⟩
    rw [eF 50 (by omega) (by omega) (by omega), t4]
    simp only [tB s hs]
  · exact hBs.mono (fun r hr ha => ⟨by rw [← (hE r M hr (Nat.le_refl _)).2]; exact ha, (hE r M hr (Nat.le_refl _)).1⟩) fun a x => BdI.ck fun k hk => eF k (by omega) (by omega) (by omega)
  · rw [eS]
    exact hOp.mono hE (fun s _ h => by rw [eF 33 (by omega) (by omega) (by omega)] at h; exact h) (fun s _ => by rw [eF 27 (by omega) (by omega) (by omega)]) hts (by omega) (by omega) fun a x => BdI.ck fun k hk => eF k (by omega) (by omega) (by omega)


