-- deps: 9k.simg
/-! a scan at a chunk: look and end, both sides -/
theorem CkS.cgN {cm cm' : CM} {sh : Sh} {V : CV} {R k : Nat} (H : CkS cm sh V R k) (h : FrN cm cm') : CkS cm' sh V R k := by
  have eb : ∀ c i, bv cm' k c i = bv cm k c i := fun c i => by rw [bv, bv, h 7 rfl]
  rw [CkS] at H ⊢
  simp only [eb, BdS1, h 16 rfl, h 17 rfl, h 18 rfl, h 14 rfl, h 15 rfl]
  exact H
theorem LsOk_cgv {sh : Sh} {V W : CV} {o : Nat} (h : W o = V o) (H : LsOk sh V o) : LsOk sh W o := by rw [LsOk, h]; exact H
def RdR (cm : CM) (sh : Sh) (V : CV) (R M G P Dn : Nat) : Prop :=
  TmR cm R M G ∧ FR cm sh V ∧ FsOk sh V ∧ LsOk sh V 14 ∧ LsOk sh V 4 ∧ sh.C = (R + 15) / 16 ∧ (∀ k, k < sh.C → CkS cm sh V R k) ∧ (∀ k, sh.C ≤ k → k < 10 → ∀ c, c < 4 → cm 17 0 (4 * k + c) = 0) ∧ cm 5 0 0 = nI P ∧ V 0 8 = nI P ∧ cm 4 0 0 = nI sh.S ∧ sh.S ≤ 40 ∧ cm 45 0 0 = nI Dn ∧ V 0 10 = nI Dn ∧ Dn = cntN (fun s => !decide (cm 33 0 s = 0)) sh.S ∧ ∀ s, s < sh.S → ScG cm sh V R M s Dn
theorem RdR.LOk {cm : CM} {sh : Sh} {V : CV} {R M G P Dn : Nat} (H : RdR cm sh V R M G P Dn) : LOk cm := by
  obtain ⟨hT, -, -, -, -, hC, hc, hz, -⟩ := H
  have hR := hT.1
  intro j hj
  have e : j = 4 * (j / 4) + j % 4 := by omega
  by_cases hk : j / 4 < sh.C
  · obtain ⟨-, -, -, -, -, hB, -⟩ := hc _ hk
    obtain ⟨-, -, -, -, f2⟩ := hB (j % 4) (by omega)
    rw [← e] at f2
    by_cases h7 : cm 17 0 j = 0
    · exact .inl h7
    · obtain ⟨-, -, a, b, c⟩ := f2 h7
      exact .inr ⟨⟨by omega, by omega⟩, ⟨by omega, by omega⟩⟩
  · have := hz (j / 4) (by omega) (by omega) (j % 4) (by omega)
    rw [← e] at this
    exact .inl this
theorem look_gr {cm : CM} {sh : Sh} {V : CV} {R M G s j ns ts x y P : Nat} (hT : TmR cm R M G) (hF : FR cm sh V) (H : ScS cm sh V R s j ns ts) (D : ScD cm V s x (pas x (fun r => aliveM cm r (nI ts)) ns) y) (hx : x.testBit P = false) {i : Nat} (hi : i < 16) (hiR : 16 * P + i < R) (k : Int32) : grN (loR (loA cm s) s P j i) s k < 160 := by
  obtain ⟨-, n, h, g1, g2⟩ := D
  have hF30 := hF.2.1
  have hR := hT.1
  have hns : ns ≤ R := H.2.2.2.2.2.2.2.2.2.2.2.1
  have hBl : pas x (fun r => aliveM cm r (nI ts)) ns ≤ ns := cntN_le _ ns
  have n0 := fun i (h9 : i ≠ 9) (ho : i ≠ 400 + 20 * s) => lk0_n (V := V) (j := j) (k := P) (q := 100 + 10 * P) h9 ho
  have o0 := lk0_o (V := V) (j := j) (o := 400 + 20 * s) (k := P) (q := 100 + 10 * P) (by omega)
  have fw : FrW (400 + 20 * s) V (lk0 V j (400 + 20 * s) P (100 + 10 * P)) := ⟨fun i hi ho _ => n0 i (v9_n hi).1 ho, fun k hk => by rw [o0, upd_n _ _ (by omega)]⟩
  have H0 := H.cg (loA_N (s := s)) fw
  have G0 : GkS (loA cm s) (lk0 V j (400 + 20 * s) P (100 + 10 * P)) s n (pas x (fun r => aliveM cm r (nI ts)) ns) := g1.cgM (fun k hk => loA_n (by omega) (by omega)) (n0 _ (by omega) (by omega)) (n0 _ (by omega) (by omega))
  have M0 : MmS (loA cm s) (lk0 V j (400 + 20 * s) P (100 + 10 * P)) s h y n := g2.cg (loA_n (by decide) (by decide)) (loA_n (by decide) (by decide)) (loA_n (by decide) (by decide)) (loA_n (by decide) (by decide)) (loA_n (by decide) (by decide)) (loA_n (by decide) (by decide)) (fun q _ => by rw [loA_n (k := 38) (by decide) (by decide)]) (n0 _ (by omega) (by omega)) (n0 _ (by omega) (by omega)) (n0 _ (by omega) (by omega))
  have hF0 : FR (loA cm s) sh (lk0 V j (400 + 20 * s) P (100 + 10 * P)) := loA_N.fr (hF.cg fun i h1 h2 => n0 i (by omega) (by omega))
  obtain ⟨-, -, n1, h1, q1, -⟩ := look_rows (P := P) (loA_N.tm hT) hF0 H0 G0 (by omega) M0 i (by omega) (by omega)
  simp only [loA_N.al] at q1
  have hci := cntN_le (fun q => aliveM cm (16 * P + q) (nI ts)) i
  have hg := gk_le q1 (by omega) k
  have r1 := pas_room (a := fun r => aliveM cm r (nI ts) || decide (r = 16 * P + i)) (n := R) (i := i + 1) hx (by omega) (by omega)
  have r2 := cntN_le (fun r => aliveM cm r (nI ts) || decide (r = 16 * P + i)) R
  have r3 : pas x (fun r => aliveM cm r (nI ts)) ns ≤ pas x (fun r => aliveM cm r (nI ts) || decide (r = 16 * P + i)) R := by
    have e1 := cntN_mono (p := fun r => x.testBit (r / 16) && aliveM cm r (nI ts)) (m := ns) (R - ns)
    rw [show ns + (R - ns) = R by omega] at e1
    refine Nat.le_trans e1 (cntN_sub R fun r _ hr => ?_)
    rw [Bool.and_eq_true] at hr ⊢
    exact ⟨hr.1, by show (aliveM cm r (nI ts) || decide (r = 16 * P + i)) = true; rw [hr.2, Bool.true_or]⟩
  have r4 : cntN (fun q => aliveM cm (16 * P + q) (nI ts)) i ≤ cntN (fun q => aliveM cm (16 * P + q) (nI ts) || decide (16 * P + q = 16 * P + i)) i := cntN_sub i fun r _ hr => by rw [hr, Bool.true_or]
  rw [cntN, decide_eq_true rfl, Bool.or_true, if_pos rfl] at r1
  omega
theorem step_S {cm : CM} {sh : Sh} {V : CV} {R M G P Dn s : Nat} (H : RdR cm sh V R M G P Dn) (hPC : P < sh.C) (hs : s < sh.S) (hb : rdB cm s = true) :
    (LoOk cm s ∧ EnOk (loC cm s) s ∧ LoPr sh V s P ∧ lkB V (nn (V (400 + 20 * s) 0)) (400 + 20 * s) P (100 + 10 * P) = loB cm s) ∧ ∃ D', RdR (enC (loC cm s) s) sh (spF sh V P s) R M G P D' := by
  have hLO := H.LOk
  obtain ⟨hT, hF, hFs, hL14, hL4, hCe, hCk, hz, e5, v8, e4, hS, e45, v10, hDn, hSc⟩ := H
  obtain ⟨hR, hM, hG, h0, h1, h2, -⟩ := id hT
  obtain ⟨j, ns, ts, x, y, H1, hts, hx2, D, hDs, hiff⟩ := hSc s hs
  have hD40 : Dn ≤ sh.S := by rw [hDn]; exact cntN_le _ _
  have hP : P < 10 := by omega
  have hC := hCk P hPC
  obtain ⟨a1, a2, a3, a4, a5, a6, a7, a8, a9, b1, b2, hns, hRw, hdead, hroom, hPa⟩ := id H1
  have hF30 := hF.2.1
  -- what the look stands upon
  rw [rdB, e5, nn_nI (by omega), b2, Bool.and_eq_true, Bool.and_eq_true, decide_eq_true_eq, decide_eq_true_eq, decide_eq_true_eq] at hb
  obtain ⟨e33, hlt, e37⟩ := hb
  have hof : P < (ns + 15) / 16 := (nI_ltq (by omega) (by omega)).mp hlt
  have hxP : x.testBit P = false := by
    have := D.1.2.2.1 P hP
    rw [e37] at this
    cases h : x.testBit P
    · rfl
    · rw [h] at this; exact absurd this (by decide)
  have hB : pas x (fun r => aliveM cm r (nI ts)) ns ≤ ns := cntN_le _ ns
  obtain ⟨L1, L2, L3, L4, L5, L6, L7, L8, L9, L10, L11⟩ := look_eq hT hF H1 D (by omega) e5 hP (by omega) hC hxP
  have hX : FrX s cm (loC cm s) := loC_X e5 hP
  obtain ⟨I, hI1, hI2⟩ := look_Lk hT hF hFs H1 D e5 hP (by omega) hC hxP
  have ev0 : nn (V (400 + 20 * s) 0) = j := by rw [a2, nn_nI (by omega)]
  have evq : nn (V (100 + 10 * P) 0) = 16 * P := by rw [hC.1, nn_nI (by omega)]
  -- what is gone past then
  have eB : pas x (fun r => aliveM cm r (nI ts)) ns + cntN (fun q => aliveM cm (16 * P + q) (nI ts)) (rN cm P) = pas (x ||| 2 ^ P) (fun r => aliveM cm r (nI ts)) ns := by
    rw [pas_or hxP rfl (by omega), rN_min hR h0 (by omega)]
    congr 1
    have := cntN_add (p := fun q => aliveM cm (16 * P + q) (nI ts)) (a := min 16 (ns - 16 * P)) (min 16 (R - 16 * P) - min 16 (ns - 16 * P))
    rw [show min 16 (ns - 16 * P) + (min 16 (R - 16 * P) - min 16 (ns - 16 * P)) = min 16 (R - 16 * P) by omega] at this
    rw [this, cntN_0 (min 16 (R - 16 * P) - min 16 (ns - 16 * P)) fun i hi => hdead _ (by omega) (by omega), Nat.add_zero]
  rw [eB] at L11
  have hB2 : pas (x ||| 2 ^ P) (fun r => aliveM cm r (nI ts)) ns ≤ ns := cntN_le _ ns
  refine ⟨⟨⟨by omega, ⟨P, hP, e5, R, hR, by omega, h0⟩, hF.FOk, ⟨j, by rw [hF.1, nn_nI (by omega)]; exact a1, a3⟩, hLO, ?_, ?_⟩, ?_, ?_, ?_⟩, ?_⟩
  · obtain ⟨-, n, h, g1, g2⟩ := D
    refine ⟨⟨G, by omega, h2⟩, a5, a7, ⟨n, by have := g1.2.2.2.1; omega, g1.2.1⟩, fun g => ?_⟩
    by_cases hg : g < n
    · rw [g2.2.1.1 g hg]
      split
      · exact .inr rfl
      · exact .inl rfl
    · exact .inl (g2.2.1.2 g (by omega))
  · rw [e5, nn_nI (by omega), a3, nn_nI (by omega)]
    intro i hi
    have := rN_min hR h0 (show 16 * P < R by omega)
    exact look_gr hT hF H1 D hxP (by omega) (by omega) _
  · obtain ⟨-, n, h, g1, g2⟩ := L11
    obtain ⟨hK, h34, -, hnB, -⟩ := g1
    rw [EnOk, h34, nn_nI (by omega)]
    refine ⟨⟨n, by omega, rfl⟩, fun g hg => ?_⟩
    have := atF_ltn (v := loC cm s 38 s) (x := loC cm s 38 s g) (g := g) (fun e => Int32.lt_irrefl e) n hg
    omega
  · exact ⟨j, 16 * P, I, by omega, hC.2.2.2.2.1, a1, a2, hFs, hF.FlOk, fun _ => ⟨hI1, hI2⟩, hC.1⟩
  · rw [ev0]; exact L1
  · have e10 : V (400 + 20 * s) 10 = -1 := by
      rcases hDs with ⟨-, h⟩ | ⟨d, n, hd, -, -, h, -⟩
      · exact h
      · rw [e33, show (0 : Int32) = nI 0 from rfl] at h
        have := nI_i h (by omega) (by omega)
        omega
    have hx' : x ||| 2 ^ P < 2 ^ ((ns + 15) / 16) := Nat.or_lt_two_pow hx2 (Nat.pow_lt_pow_right (by omega) hof)
    have eN : spN sh V P s = lkC sh V j (400 + 20 * s) P (100 + 10 * P) (16 * P) := by rw [spN, ev0, evq]
    rw [spF, eN]
    generalize lkC sh V j (400 + 20 * s) P (100 + 10 * P) (16 * P) = V1 at *
    obtain ⟨W, D', eW, d1, d2, d3, d4, d5, d6, d7, d8, d9, d10⟩ := end_eq (o := (ns + 15) / 16) (Dn := Dn) L11 (by omega) (by rw [L2 28 rfl]; exact b2) (by rw [L3.2 4 (by omega)]; exact b1) (by omega) hx' (by rw [L6]; exact e33) (by rw [L5]; exact e10) (by rw [L7]; exact e45) (by rw [L4]; exact v10) (by omega)
    rw [← eW]
    have hX2 : FrX s cm (enC (loC cm s) s) := hX.trans enC_X
    have hN2 := hX2.N
    have hW : FrW (400 + 20 * s) V W := L3.trans d5
    have hlow : ∀ i, 0 < i → i < 400 → i ≠ 9 → i ≠ 11 → i ≠ 12 → i ≠ 13 → W i = V i := fun i h1 h2 h3 h4 h5 h6 => hW.1 i (v9_f (by omega) (by omega)) (by omega) (by omega)
    refine ⟨D', hN2.tm hT, hN2.fr (hF.cg fun i h1 h2 => hlow i (by omega) (by omega) (by omega) (by omega) (by omega) (by omega)), FsOk_cg (hlow 7 (by omega) (by omega) (by omega) (by omega) (by omega) (by omega)) hFs, LsOk_cgv (hlow 14 (by omega) (by omega) (by omega) (by omega) (by omega) (by omega)) hL14, LsOk_cgv (hlow 4 (by omega) (by omega) (by omega) (by omega) (by omega) (by omega)) hL4, hCe, fun k hk => ((hCk k hk).cgN hN2).cg fun i h1 h2 => hlow i (by omega) (by omega) (by omega) (by omega) (by omega) (by omega), fun k h1 h2 c hc => by rw [hN2 17 rfl]; exact hz k h1 h2 c hc, ?_, ?_, by rw [hN2 4 rfl]; exact e4, hS, d3, d4, ?_, fun q hq => ?_⟩
    · rw [hX2 5 0 0 (by rw [own]; omega)]; exact e5
    · rw [d6 8 (by decide), L4]; exact v8
    · have hoth : ∀ q, q ≠ s → enC (loC cm s) s 33 0 q = cm 33 0 q := fun q hq => hX2 33 0 q (by rw [own]; omega)
      by_cases hp : pc10 (x ||| 2 ^ P) = (ns + 15) / 16
      · rw [d10.mpr hp, hDn, cnt_one (p := fun q => !decide (cm 33 0 q = 0)) (q := fun q => !decide (enC (loC cm s) s 33 0 q = 0)) (k := s) (by simp [e33]) (by simp only [Bool.not_eq_true', decide_eq_false_iff_not]; exact fun h => d9.mp h hp) (fun q hq => by rw [hoth q hq]) sh.S, if_pos hs]
      · have : D' = Dn := by have : ¬ D' = Dn + 1 := fun h => hp (d10.mp h); omega
        rw [this, hDn]
        refine cntN_cg _ fun q _ => ?_
        by_cases e : q = s
        · rw [e, d9.mpr hp, e33]
        · rw [hoth q e]
    · by_cases e : q = s
      · rw [e]
        refine ⟨j, ns, ts, x ||| 2 ^ P, y, H1.cg hN2 hW, hts, hx', ?_, d8, d9⟩
        simp only [hN2.al]
        exact d7
      · refine (hSc q hq).oth hX2 e (fun i h1 h2 => hW.1 i ?_ (by omega) (by omega)) d1
        exact v9_f (by omega) (by omega)


