-- deps: a1.simx
/-! reading: all that both sides keep -/
def FrA (S : Nat) (cm0 cm : CM) : Prop := ∀ k i j, k ≠ 5 → k ≠ 45 → (∀ s, s < S → ¬ own s k i j) → cm k i j = cm0 k i j
def FrB (V0' V : CV) : Prop := (∀ i, 0 < i → i < 400 → i ≠ 9 → i ≠ 11 → i ≠ 12 → i ≠ 13 → V i = V0' i) ∧ ∀ k, k < 8 → V 0 k = V0' 0 k
theorem FrA.rfl {S : Nat} {cm : CM} : FrA S cm cm := fun _ _ _ _ _ _ => Eq.refl _
theorem FrB.rfl {V : CV} : FrB V V := ⟨fun _ _ _ _ _ _ _ => Eq.refl _, fun _ _ => Eq.refl _⟩
theorem FrA.trans {S : Nat} {a b c : CM} (h : FrA S a b) (h2 : FrA S b c) : FrA S a c := fun k i j h5 h45 hs => (h2 k i j h5 h45 hs).trans (h k i j h5 h45 hs)
theorem FrB.trans {a b c : CV} (h : FrB a b) (h2 : FrB b c) : FrB a c := ⟨fun i p q r s t u => (h2.1 i p q r s t u).trans (h.1 i p q r s t u), fun k hk => (h2.2 k hk).trans (h.2 k hk)⟩
theorem FrA.N {S : Nat} {cm0 cm : CM} (h : FrA S cm0 cm) : FrN cm0 cm := by
  intro k hk
  simp only [m18, m12, Bool.or_eq_false_iff, beq_eq_false_iff_ne] at hk
  funext i j
  refine h k i j (by omega) (by omega) fun s _ ho => ?_
  rw [own] at ho
  omega
theorem FrX.A {S s : Nat} {cm0 cm : CM} (h : FrX s cm0 cm) (hs : s < S) : FrA S cm0 cm := fun k i j _ _ ho => h k i j (ho s hs)
theorem trF_ck {cm cm' : CM} (h : ∀ k, k = 2 ∨ k = 6 ∨ (10 ≤ k ∧ k ≤ 13) ∨ (19 ≤ k ∧ k ≤ 21) → cm' k = cm k) (r : Nat) (t : Int32) : (∀ c, lk cm' r c t = lk cm r c t) ∧ ∀ d f, trF cm' r t d f = trF cm r t d f := by
  have hl : ∀ c, lk cm' r c t = lk cm r c t := fun c => by
    rw [lk, lk, h 2 (by omega)]
    exact lkup_cg (by rw [h 6 (by omega)]) _ fun k _ => ⟨by rw [h 10 (by omega)], by rw [h 11 (by omega)], by rw [h 12 (by omega)], by rw [h 13 (by omega)]⟩
  refine ⟨hl, fun d => ?_⟩
  induction d with
  | zero => intro f; rfl
  | succ d ih => intro f; rw [trF, trF, h 19 (by omega), h 20 (by omega), h 21 (by omega), ih, ih, hl]
theorem ClG.nq {cm cm' : CM} {s R : Nat} (H : ClG cm s R) (h : ∀ k, k = 2 ∨ k = 6 ∨ (8 ≤ k ∧ k ≤ 13) ∨ (19 ≤ k ∧ k ≤ 21) ∨ (23 ≤ k ∧ k ≤ 25) ∨ k = 27 ∨ k = 34 ∨ (37 ≤ k ∧ k ≤ 43) → cm' k = cm k) : ClG cm' s R := by
  have hl := fun r t => (trF_ck (cm := cm) (cm' := cm') (fun k hk => h k (by omega)) r t).1
  have ht := fun r t => (trF_ck (cm := cm) (cm' := cm') (fun k hk => h k (by omega)) r t).2
  refine ClF.same (ClF.ext H fun r _ => ⟨?_, fun _ => ⟨?_, ?_⟩⟩) (by rw [h 34 (by omega)]) (fun k h1 h2 => by rw [h k (by omega)])
  · rw [selT, selT, loT, loT, aliveM, aliveM, h 37 (by omega), h 23 (by omega), h 27 (by omega), h 8 (by omega), h 9 (by omega), ht]
  · rw [tkK, tkK, h 24 (by omega), h 27 (by omega), hl]
  · rw [meaK, meaK, h 25 (by omega), h 27 (by omega), hl]
theorem enC_q {cm : CM} {s k : Nat} (h1 : k ≠ 33) (h2 : k ≠ 45) (h3 : k ≠ 51) : enC cm s k = cm k := by
  rw [enC]
  split
  · rw [soC_nq h3, c3_n h1, c3_n h2]
  · rfl
theorem loR_f {s P f k : Nat} {cm : CM} (h : m12 k = false) : ∀ i, loR cm s P f i k = cm k
  | 0 => rfl
  | i + 1 => by
    rw [loR]
    split
    · rw [tkC_f h, loR_f h i]
    · exact loR_f h i
theorem sumN_upd {a : Nat → Nat} {s d : Nat} : ∀ n, sumN (fun q => if q = s then a q + d else a q) n = sumN a n + (if s < n then d else 0)
  | 0 => rfl
  | n + 1 => by
    rw [sumN, sumN, sumN_upd n]
    by_cases h : n = s
    · subst h
      rw [if_pos rfl, if_neg (Nat.lt_irrefl _), if_pos (Nat.lt_succ_self _)]; omega
    · rw [if_neg h]
      by_cases h2 : s < n
      · rw [if_pos h2, if_pos (by omega)]; omega
      · rw [if_neg h2, if_neg (by omega), Nat.add_zero, Nat.add_zero]
theorem lkR_n {sh : Sh} {V : CV} {j o s i : Nat} (h9 : i ≠ 9) (h11 : i ≠ 11) (h12 : i ≠ 12) (h13 : i ≠ 13) (h4 : i ≠ o + 4) (h5 : i ≠ o + 5) (h6 : i ≠ o + 6) (h7 : i ≠ o + 7) (h8 : i ≠ o + 8) : ∀ n, lkR sh V j o s n i = V i
  | 0 => rfl
  | n + 1 => by
    have ih := lkR_n (sh := sh) (V := V) (j := j) (s := s) h9 h11 h12 h13 h4 h5 h6 h7 h8 n
    rw [lkR, lkS]
    split
    · split
      · rw [scR_n h4 h5 h6 h7 h8, fcW_nq h9 h11 h12 h13, ih]
      · rw [fcW_nq h9 h11 h12 h13, ih]
    · exact ih
theorem spF_B {sh : Sh} {V : CV} {P s : Nat} : FrB V (spF sh V P s) := by
  have hn : ∀ i, i < 400 → i ≠ 9 → i ≠ 11 → i ≠ 12 → i ≠ 13 → spN sh V P s i = V i := by
    intro i h h9 h11 h12 h13
    rw [spN, lkC]
    split
    · rw [lkR_n h9 h11 h12 h13 (by omega) (by omega) (by omega) (by omega) (by omega), lk0_n h9 (by omega)]
    · rw [c2_n _ _ _ (by omega), lk0_n h9 (by omega)]
  refine ⟨fun i h0 h h9 h11 h12 h13 => ?_, fun k hk => ?_⟩
  · rw [spF]
    split
    · rw [fiV_n (by omega) (by omega), hn i h h9 h11 h12 h13]
    · exact hn i h h9 h11 h12 h13
  · rw [spF]
    split
    · rw [fiV_k (by omega), hn 0 (by omega) (by omega) (by omega) (by omega) (by omega)]
    · rw [hn 0 (by omega) (by omega) (by omega) (by omega) (by omega)]
/-- a look and an end -/
theorem rdx_step {cm : CM} {cl : CL} {sh : Sh} {V : CV} {L : Int64} {R M G P Dn s : Nat} (H : RdR cm sh V R M G P Dn) (hPC : P < sh.C) (hs : s < sh.S) (hb : rdB cm s = true) (hLn : LnS cm cl L sh.S) (hOp : OpB cm sh.S R M) (hCl : ∀ q, q < sh.S → ClG cm q R) :
    LnS (enC (loC cm s) s) (loL cm cl s) L sh.S ∧ OpB (enC (loC cm s) s) sh.S R M ∧ (∀ q, q < sh.S → ClG (enC (loC cm s) s) q R) ∧ FrA sh.S cm (enC (loC cm s) s) ∧ FrB V (spF sh V P s) ∧ ∀ q, enC (loC cm s) s 33 0 q = 0 → cm 33 0 q = 0 := by
  obtain ⟨-, D2, H2⟩ := step_S H hPC hs hb
  have hts := H.ts
  have hscs := fun q hq => H.sc (s := q) hq
  obtain ⟨hT, hF, hFs, hL14, hL4, hCe, hCk, hz, e5, v8, e4, hS, e45, v10, hDn, hSc⟩ := H
  obtain ⟨hR, hM, hG, h0, -⟩ := id hT
  have hP : P < 10 := by omega
  obtain ⟨j, ns, ts, x, y, H1, hts1, hx2, D, hDs, hiff⟩ := hSc s hs
  obtain ⟨a1, a2, a3, a4, a5, a6, a7, a8, a9, b1, b2, hns, -⟩ := id H1
  rw [rdB, e5, nn_nI (by omega), b2, Bool.and_eq_true, Bool.and_eq_true, decide_eq_true_eq, decide_eq_true_eq, decide_eq_true_eq] at hb
  obtain ⟨e33, hlt, e37⟩ := hb
  have hof : P < (ns + 15) / 16 := (nI_ltq (by omega) (by omega)).mp hlt
  have hxP : x.testBit P = false := by
    have := D.1.2.2.1 P hP
    rw [e37] at this
    cases h : x.testBit P
    · rfl
    · rw [h] at this; exact absurd this (by decide)
  have hX : FrX s cm (enC (loC cm s) s) := (loC_X e5 hP).trans enC_X
  have hN := hX.N
  have hE : TmE cm (enC (loC cm s) s) R M := fun r t _ _ => ⟨fun c _ => hN.lk r c _, hN.al r _⟩
  have o29 : loC cm s 29 0 s = cm 29 0 s + 1 ∧ loC cm s 30 0 s = if loB cm s then cm 30 0 s else cm 30 0 s + 1 := by
    have l29 : loA cm s 29 0 s = cm 29 0 s + 1 := by rw [loA, c3_s, upd_s]
    have l30 : loA cm s 30 = cm 30 := loA_n (by decide) (by decide)
    rw [loC]
    split
    · rw [loR_f rfl, loR_f rfl, l29, l30]; exact ⟨rfl, rfl⟩
    · rw [c3_n (by decide), c3_s, upd_s, l29]; exact ⟨rfl, rfl⟩
  have h33 : ∀ q, enC (loC cm s) s 33 0 q = 0 → cm 33 0 q = 0 := fun q h => by
    by_cases e : q = s
    · rw [e]; exact e33
    · rw [hX 33 0 q (by rw [own]; omega)] at h; exact h
  refine ⟨?_, ?_, fun q hq => ?_, hX.A hs, spF_B, h33⟩
  · obtain ⟨c1, a, b, c2, c3, c4⟩ := hLn
    obtain ⟨p1, p2, p3, p4⟩ := c2 s hs
    have h10 : a s + 1 ≤ 10 := by
      obtain ⟨-, -, -, -, -, -, -, -, -, -, -, -, -, -, -, hSc2⟩ := H2
      obtain ⟨j', ns', ts', x', y', H1', -, hx', D', -⟩ := hSc2 s hs
      have e := D'.1.2.2.2.1
      have hns' : ns' ≤ R := H1'.2.2.2.2.2.2.2.2.2.2.2.1
      have := pc_le hx' (by omega)
      rw [enC_q (by decide) (by decide) (by decide), o29.1, p1, show (1 : Int32) = nI 1 from rfl, nI_add] at e
      have := nI_i e (by omega) (by omega)
      omega
    refine ⟨?_, fun q => if q = s then a q + 1 else a q, fun q => if q = s then b q + (if loB cm s then 0 else 1) else b q, fun q hq => ?_, ?_, ?_⟩
    · rw [loL]; split <;> exact c1
    · show _ = nI (if q = s then a q + 1 else a q) ∧ _ = nI (if q = s then b q + (if loB cm s then 0 else 1) else b q) ∧ (if q = s then b q + (if loB cm s then 0 else 1) else b q) ≤ (if q = s then a q + 1 else a q) ∧ (if q = s then a q + 1 else a q) ≤ 10
      by_cases e : q = s
      · subst e
        rw [if_pos rfl, if_pos rfl, enC_q (by decide) (by decide) (by decide), enC_q (by decide) (by decide) (by decide), o29.1, o29.2, p1, p2, show (1 : Int32) = nI 1 from rfl, nI_add]
        refine ⟨rfl, ?_, ?_, h10⟩
        · split
          · rfl
          · rw [nI_add]
        · split <;> omega
      · rw [if_neg e, if_neg e, hX 29 0 q (by rw [own]; omega), hX 30 0 q (by rw [own]; omega)]
        exact c2 q hq
    · rw [sumN_upd, if_pos hs, Int64.ofNat_add, ← c3, loL]
      split <;> rfl
    · rw [sumN_upd, if_pos hs, Int64.ofNat_add, ← c4, loL]
      split
      · exact (Int64.add_zero _).symm
      · rfl
  · refine hOp.mono hE (fun q hq h => ?_) (fun q hq => hX 27 0 q (by rw [own]; omega)) hts (by omega) (by omega) fun a x => BdI.ck fun k hk => hN k (by simp only [m18, m12, Bool.or_eq_false_iff, beq_eq_false_iff_ne]; omega)
    by_cases e : q = s
    · rw [e]; exact e33
    · rw [hX 33 0 q (by rw [own]; omega)] at h; exact h
  · by_cases e : q = s
    · subst e
      exact (look_cl hT hF H1 D e5 hP (by omega) (hCk P hPC) hxP (hCl q hq) (hOp q hq e33 ts hts1 a9)).nq fun k hk => enC_q (by omega) (by omega) (by omega)
    · obtain ⟨j', ts', g1, g2, g3, g4, g5, g6, -⟩ := hscs q hq
      exact (hCl q hq).ck (fun k i j hk => hX k i j (by rw [own]; rw [scn] at hk; omega)) hF (fun k j h1 h2 _ => by rw [hN k (by simp only [m18, m12, Bool.or_eq_false_iff, beq_eq_false_iff_ne]; omega)]) ⟨j', g1, g2⟩ g3 g4 g5 g6 hR hE (Nat.le_refl _) fun r t a b => by omega
theorem in_x {cm : CM} {cl : CL} {sh : Sh} {V : CV} {L : Int64} {R M G P Dn : Nat} (H : RdR cm sh V R M G P Dn) (hP : P < sh.C) (hC : sh.C ≤ 10) (hLn : LnS cm cl L sh.S) (hOp : OpB cm sh.S R M) (hCl : ∀ q, q < sh.S → ClG cm q R) : ∀ s, s ≤ sh.S →
    LnS (rdI (cm, cl, false) s).1 (rdI (cm, cl, false) s).2.1 L sh.S ∧ OpB (rdI (cm, cl, false) s).1 sh.S R M ∧ (∀ q, q < sh.S → ClG (rdI (cm, cl, false) s).1 q R) ∧ FrA sh.S cm (rdI (cm, cl, false) s).1 ∧ FrB V (gpI sh P (V, false) s).1 ∧ ∀ q, (rdI (cm, cl, false) s).1 33 0 q = 0 → cm 33 0 q = 0 := by
  intro s
  induction s with
  | zero => intro _; exact ⟨hLn, hOp, hCl, FrA.rfl, FrB.rfl, fun _ h => h⟩
  | succ s ih =>
    intro hs
    obtain ⟨i1, i2, i3, i4, i5, i6⟩ := ih (by omega)
    obtain ⟨⟨D1, H1⟩, e1, e2⟩ := in_eq (cl := cl) H hP hC s (by omega)
    rw [rdI, gpI]
    generalize rdI (cm, cl, false) s = z at *
    generalize gpI sh P (V, false) s = w at *
    obtain ⟨c, l, r⟩ := z
    obtain ⟨W, r2⟩ := w
    simp only at H1 e1 e2 i1 i2 i3 i4 i5 i6 ⊢
    have hd := H1.D
    have hB : rdB c s = scT W (400 + 20 * s) P := by
      obtain ⟨hT, -, -, -, -, -, -, -, e5, -, -, -, -, -, -, hSc⟩ := H1
      exact step_B (hSc s (by omega)) hT.1 (by omega) e5 (by omega)
    rw [rdS, spS]
    simp only
    cases hb : rdB c s
    · rw [← hB, hb, if_neg (by decide), if_neg (by decide)]
      exact ⟨i1, i2, i3, i4, i5, i6⟩
    · rw [← hB, hb, if_pos rfl, if_pos rfl]
      obtain ⟨q1, q2, q3, q4, q5, q6⟩ := rdx_step H1 hP (by omega) hb i1 i2 i3
      exact ⟨q1, q2, q3, i4.trans q4, i5.trans q5, fun q h => i6 q (q6 q h)⟩
theorem rd_x {sh : Sh} {R M G : Nat} (hC : sh.C ≤ 10) : ∀ n (cm : CM) (cl : CL) (V : CV) (L : Int64) (P Dn : Nat), RdR cm sh V R M G P Dn → P < 10 → (P < sh.C ∨ P = 0) → LnS cm cl L sh.S → OpB cm sh.S R M → (∀ q, q < sh.S → ClG cm q R) →
    LnS (rdO sh.S n (cm, cl)).1 (rdO sh.S n (cm, cl)).2.1 (grO sh n (V, L)).1.2 sh.S ∧ OpB (rdO sh.S n (cm, cl)).1 sh.S R M ∧ (∀ q, q < sh.S → ClG (rdO sh.S n (cm, cl)).1 q R) ∧ FrA sh.S cm (rdO sh.S n (cm, cl)).1 ∧ FrB V (grO sh n (V, L)).1.1 ∧ ∀ q, (rdO sh.S n (cm, cl)).1 33 0 q = 0 → cm 33 0 q = 0 := by
  intro n
  induction n with
  | zero => intro cm cl V L P Dn H hP hP2 h1 h2 h3; exact ⟨h1, h2, h3, FrA.rfl, FrB.rfl, fun _ h => h⟩
  | succ n ih =>
    intro cm cl V L P Dn H hP hP2 h1 h2 h3
    obtain ⟨o1, ⟨m, o2, o3⟩, o4⟩ := op_eq H
    rw [rdO, grO]
    simp only
    rw [← o1]
    by_cases h0 : opN cm = 0
    · rw [if_neg (show ¬ 0 < opN cm by rw [h0]; exact fun q => Int32.lt_irrefl q), if_pos h0]
      exact ⟨h1, h2, h3, FrA.rfl, FrB.rfl, fun _ h => h⟩
    · have hpos : 0 < opN cm := by
        rw [o2, show (0 : Int32) = nI 0 from rfl, nI_ltq (by omega) (by omega)]
        refine Nat.pos_of_ne_zero fun q => h0 ?_
        rw [o2, q]; rfl
      rw [if_pos hpos, if_neg h0]
      have hPC : P < sh.C := by have := o4 h0; omega
      obtain ⟨⟨D1, H1⟩, e1, e2⟩ := in_eq (cl := cl) H hPC hC sh.S (Nat.le_refl _)
      obtain ⟨q1, q2, q3, q4, q5, q6⟩ := in_x H hPC hC h1 h2 h3 sh.S (Nat.le_refl _)
      have H2 := rdE_eq H1 hP
      have e8 := gpI_8 H hP
      have hts := H1.ts
      have hM := H1.1.2.1
      rw [stp]
      simp only
      rw [e8]
      generalize rdI (cm, cl, false) sh.S = z at *
      generalize gpI sh P (V, false) sh.S = w at *
      have n5 : ∀ k, k ≠ 5 → rdE z.1 k = z.1 k := fun k hk => by rw [rdE, c3_n hk]
      have n0 : ∀ i, i ≠ 0 → spE sh w.1 i = w.1 i := fun i hi => by rw [spE, c2_n _ _ _ hi]
      obtain ⟨i1, i2, i3, i4, i5, i6⟩ := ih (rdE z.1) (rdL z) (spE sh w.1) (if w.2 = true then L + 1 else L) _ D1 H2 (by split <;> omega) (by split <;> omega) (by
        obtain ⟨c1, a, b, c2, c3, c4⟩ := q1
        refine ⟨?_, a, b, fun s hs => by rw [n5 29 (by decide), n5 30 (by decide)]; exact c2 s hs, c3, c4⟩
        rw [← e1, rdL, ← c1]
        cases z.2.2 <;> simp [cl1]) (q2.mono (TmE.of fun k hk => n5 k (by omega)) (fun s _ h => by rw [n5 33 (by decide)] at h; exact h) (fun s _ => by rw [n5 27 (by decide)]) hts (by omega) (by omega) fun a x => BdI.ck fun k hk => n5 k (by omega)) (fun q hq => (q3 q hq).nq fun k hk => n5 k (by omega))
      refine ⟨i1, i2, i3, ?_, ?_, fun q h => q6 q (by have := i6 q h; rw [n5 33 (by decide)] at this; exact this)⟩
      · exact (q4.trans fun k i j h5 _ _ => by rw [n5 k h5]).trans i4
      · exact (q5.trans ⟨fun i h _ _ _ _ _ => n0 i (by omega), fun k hk => by rw [spE, c2_o (.inr (by omega))]⟩).trans i5
/-- reading keeps all -/
theorem read_R {cm : CM} {cl : CL} {sh : Sh} {V : CV} {L : Int64} {M : Nat} (H : SR cm cl sh V L M) (n : Nat) : SR (rdO sh.S n (cm, cl)).1 (rdO sh.S n (cm, cl)).2.1 sh (grO sh n (V, L)).1.1 (grO sh n (V, L)).1.2 M ∧ (rdO sh.S n (cm, cl)).2.2 = (grO sh n (V, L)).2 := by
  obtain ⟨R, G, P, Dn, w, W, hRd, hP, ⟨m1, m2, m3⟩, ⟨n1, n2, n3, n4, n5⟩, hWt, hFh, hLn, hTc, hBs, hOp, hCl⟩ := H
  have hR := hRd.1.1
  have hCe : sh.C = (R + 15) / 16 := hRd.2.2.2.2.2.1
  obtain ⟨⟨P', D', H', hP1, hP2⟩, -, he⟩ := rd_eq (by omega) n cm cl V L P Dn hRd hP.1 hP.2.1 hLn.1
  obtain ⟨i1, i2, i3, i4, i5, i6⟩ := rd_x (by omega) n cm cl V L P Dn hRd hP.1 hP.2.1 hLn hOp hCl
  refine ⟨?_, he⟩
  have hDD : sh.S ≤ D' + 4 := by
    have e1 : Dn = cntN (fun s => !decide (cm 33 0 s = 0)) sh.S := hRd.2.2.2.2.2.2.2.2.2.2.2.2.2.2.1
    have e2 : D' = cntN (fun s => !decide ((rdO sh.S n (cm, cl)).1 33 0 s = 0)) sh.S := H'.2.2.2.2.2.2.2.2.2.2.2.2.2.2.1
    have := cntN_sub (p := fun s => !decide (cm 33 0 s = 0)) (q := fun s => !decide ((rdO sh.S n (cm, cl)).1 33 0 s = 0)) sh.S fun s _ h => by
      simp only [Bool.not_eq_true', decide_eq_false_iff_not] at h ⊢
      exact fun q => h (i6 s q)
    have := hP.2.2
    omega
  generalize rdO sh.S n (cm, cl) = z at *
  generalize grO sh n (V, L) = u at *
  have hN := i4.N
  have hq : ∀ k, k < 5 ∨ (5 < k ∧ k ≤ 25) ∨ k = 27 ∨ k = 28 ∨ k = 50 → z.1 k = cm k := fun k hk => hN k (by simp only [m18, m12, Bool.or_eq_false_iff, beq_eq_false_iff_ne]; omega)
  have hE : TmE cm z.1 R M := fun r t _ _ => ⟨fun c _ => hN.lk r c _, hN.al r _⟩
  obtain ⟨j1, j2⟩ := i5
  refine ⟨R, G, P', D', w, W, H', ⟨hP1, hP2, hDD⟩, ⟨by rw [j2 7 (by omega)]; exact m1, by rw [j2 6 (by omega)]; exact m2, fun c hc => by rw [j1 18 (by omega) (by omega) (by omega) (by omega) (by omega) (by omega)]; exact m3 c hc⟩, ⟨n1.ce hE (Nat.le_refl _) (Nat.le_refl _) (j1 1 (by omega) (by omega) (by omega) (by omega) (by omega) (by omega)) (j1 2 (by omega) (by omega) (by omega) (by omega) (by omega) (by omega)) (j1 3 (by omega) (by omega) (by omega) (by omega) (by omega) (by omega)) rfl rfl, n2, by rw [j1 1 (by omega) (by omega) (by omega) (by omega) (by omega) (by omega), hq 9 (by omega)]; exact n3, n4, n5⟩, hWt.ck fun k hk => hq k (by omega), ⟨by rw [BOk, hq 7 (by omega)]; exact hFh.1, fun k a b => by rw [hq 16 (by omega), hq 18 (by omega)]; exact hFh.2.1 k a b, fun s a b => ⟨by rw [hq 50 (by omega)]; exact (hFh.2.2 s a b).1, ?_⟩⟩, i1, hTc.ck fun k hk => hq k (by omega), hBs.mono (fun r hr ha => ⟨by rw [← hN.al]; exact ha, fun c hc => hN.lk r c _⟩) fun a x => BdI.ck fun k hk => hq k (by omega), i2, i3⟩
  obtain ⟨p1, p2, p3, p4⟩ := (hFh.2.2 s a b).2
  refine ⟨fun k h1 h2 => ?_, fun p hp => ⟨?_, ?_⟩, fun k hk => ?_, fun g => ⟨?_, ?_, ?_, ?_⟩⟩
  · rw [i4 k 0 s (by omega) (by omega) fun q hq => by rw [own]; omega]; exact p1 k h1 h2
  · rw [i4 35 0 _ (by omega) (by omega) fun q hq => by rw [own]; omega]; exact (p2 p hp).1
  · rw [i4 36 0 _ (by omega) (by omega) fun q hq => by rw [own]; omega]; exact (p2 p hp).2
  · rw [i4 37 0 _ (by omega) (by omega) fun q hq => by rw [own]; omega]; exact p3 k hk
  · rw [i4 39 s g (by omega) (by omega) fun q hq => by rw [own]; omega]; exact (p4 g).1
  · rw [i4 40 s g (by omega) (by omega) fun q hq => by rw [own]; omega]; exact (p4 g).2.1
  · rw [i4 41 s g (by omega) (by omega) fun q hq => by rw [own]; omega]; exact (p4 g).2.2.1
  · rw [i4 44 s g (by omega) (by omega) fun q hq => by rw [own]; omega]; exact (p4 g).2.2.2


