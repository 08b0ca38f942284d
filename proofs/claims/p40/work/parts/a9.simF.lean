-- deps: a8.simE
/-! which results are kept -/
theorem ou_0 (c : Nat) : ouB 0 c = true := by
  rw [ouB, decide_eq_true_eq]
  have h : (0 : Int32) >>> (nI c &&& 31) = 0 := by
    apply Int32.toBitVec_inj.mp
    rw [Int32.toBitVec_shiftRight]
    simp
  rw [h]; decide
theorem kpL_iff {V : CV} {q : Nat} {m : Int32} : ∀ n, kpL V q m n = true ↔ ∀ c, c < n → ouB m c = false → V 18 c ≤ V q 3
  | 0 => ⟨fun _ c h => by omega, fun _ => rfl⟩
  | n + 1 => by
    rw [kpL, Bool.and_eq_true, kpL_iff n, Bool.or_eq_true, decide_eq_true_eq]
    constructor
    · rintro ⟨a, b⟩ c hc ho
      by_cases e : c = n
      · subst e
        rcases b with b | b
        · rw [b] at ho; exact Bool.noConfusion ho
        · exact b
      · exact a c (by omega) ho
    · intro h
      refine ⟨fun c hc => h c (by omega), ?_⟩
      cases ho : ouB m n
      · exact .inr (h n (by omega) ho)
      · exact .inl rfl
/-- the columns of a result -/
theorem col_eq {cm : CM} {sh : Sh} {V : CV} {R M G P Dn s j : Nat} (hRd : RdR cm sh V R M G P Dn) (hs : s < sh.S) (hj : j < sh.F) (ej : cm 23 0 s = nI j) {c : Nat} (hc : c < 4) : ouB (scC V (400 + 20 * s) ||| V (300 + j) 6) c = !tchB cm (nI c) s := by
  obtain ⟨j', ts, -, -, k1, k2, -⟩ := hRd.sc hs
  obtain ⟨hT, hF, -, -, -, -, -, -, -, -, -, -, -, -, -, hSc⟩ := hRd
  obtain ⟨-, -, -, -, -, ⟨-, -, -, v1, -, v2, -⟩, -⟩ := hSc s hs
  have hF30 := hF.2.1
  obtain ⟨-, -, -, -, -, hcol, -⟩ := hF.2.2 j hj
  have hneg : ¬ nI c < 0 := fun e => by
    rw [i32_lt, nI_ti (by omega), show (0 : Int32).toInt = 0 from rfl] at e
    omega
  rw [ou_or, hcol c hc, scC, ou_or, v1, v2, tchB, ej, nn_nI (by omega), decide_eq_false hneg, Bool.false_or]
  obtain ⟨m, hm, em⟩ := k2
  rw [em, ou_1 (by omega) (by omega)]
  have e2 : decide (nI m = nI c) = decide (c = m) := by
    rw [decide_eq_decide, nI_eqq (by omega) (by omega)]; exact eq_comm
  rw [e2]
  rcases k1 with h | ⟨k, hk, ek⟩
  · have hne : ¬ (-1 : Int32) = nI c := fun e => by
      have := congrArg Int32.toInt e
      rw [nI_ti (by omega), show (-1 : Int32).toInt = -1 from by decide] at this
      omega
    rw [h, if_pos rfl, ou_0, decide_eq_false hne]
    cases decide (c = m) <;> cases about cm (nI c) 30 j <;> rfl
  · have hk1 : ¬ nI k = -1 := fun e => by
      have := congrArg Int32.toInt e
      rw [nI_ti (by omega), show (-1 : Int32).toInt = -1 from by decide] at this
      omega
    have e3 : decide (nI k = nI c) = decide (c = k) := by
      rw [decide_eq_decide, nI_eqq (by omega) (by omega)]; exact eq_comm
    rw [ek, if_neg hk1, ou_1 (by omega) (by omega), e3]
    cases decide (c = m) <;> cases decide (c = k) <;> cases about cm (nI c) 30 j <;> rfl
theorem kept_eq {cm : CM} {sh : Sh} {V : CV} {R M G P Dn s w : Nat} {W : Nat → Nat} (hRd : RdR cm sh V R M G P Dn) (hMo : MoS V M w W) (hWt : WtS cm R M G w W) (hTc : TcS cm sh.S M w W) (hs : s < sh.S) : kpB V (400 + 20 * s) (nn (V (400 + 20 * s) 0)) = keptB cm s ∧ (keptB cm s = true → ∃ ts, ts ≤ M ∧ cm 27 0 s = nI ts ∧ w ≤ ts ∧ (∀ c, c < 4 → tchB cm (nI c) s = true → W c ≤ ts) ∧ ¬ cm 33 0 s = 0) := by
  obtain ⟨j, ts, j1, j2, k1, k2, j5, j6, j7⟩ := hRd.sc hs
  obtain ⟨m1, m2, m3⟩ := hMo
  obtain ⟨ts', t1, t2, t3, t4⟩ := hTc s hs
  have hM := hRd.1.2.1
  have hF30 := hRd.2.1.2.1
  have hd := hRd.D
  have ets : ts' = ts := nI_i (t2.symm.trans j5) (by omega) (by omega)
  subst ets
  have hcol := fun c hc => col_eq hRd hs j1 j2 (c := c) hc
  have ev0 : nn (V (400 + 20 * s) 0) = j := by
    obtain ⟨-, -, -, -, -, -, -, -, -, -, -, -, -, -, -, hSc⟩ := hRd
    obtain ⟨j9, -, -, -, -, ⟨-, a2, a3, -⟩, -⟩ := hSc s hs
    rw [a2, ← a3, j2, nn_nI (by omega)]
  obtain ⟨-, -, -, -, -, -, -, -, -, -, -, -, e45, v10, -, hSc⟩ := hRd
  obtain ⟨-, -, -, -, -, -, -, -, -, hDs, -⟩ := hSc s hs
  have hkl : kpL V (400 + 20 * s) (scC V (400 + 20 * s) ||| V (300 + j) 6) 4 = true ↔ ∀ c, c < 4 → tchB cm (nI c) s = true → W c ≤ ts' := by
    rw [kpL_iff]
    refine forall_congr' fun c => ?_
    constructor
    · intro h hc ht
      have := h hc (by rw [hcol c hc, ht]; rfl)
      rw [m3 c hc, j7] at this
      exact (nI_leq (by have := hWt.2.1 c hc; omega) (by omega)).mp this
    · intro h hc ho
      rw [hcol c hc] at ho
      have := h hc (by simpa using ho)
      rw [m3 c hc, j7]
      exact (nI_leq (by have := hWt.2.1 c hc; omega) (by omega)).mpr this
  have hw : decide (V 0 6 ≤ V (400 + 20 * s) 3) = decide (w ≤ ts') := by
    rw [m2, j7, decide_eq_decide, nI_leq (by have := hWt.1; omega) (by omega)]
  rw [ev0, kpB, keptB, hw]
  rcases hDs with ⟨a, b⟩ | ⟨d, n, hdD, -, b, a, -⟩
  · rw [a, b]
    refine ⟨by simp, fun h => ?_⟩
    rw [Bool.and_eq_true, decide_eq_true_eq] at h
    exact absurd h.1 Int32.lt_irrefl
  · have hn1 : ¬ nI d = -1 := fun e => by
      have := congrArg Int32.toInt e
      rw [nI_ti (by omega), show (-1 : Int32).toInt = -1 from by decide] at this
      omega
    have hp : (0 : Int32) < nI (d + 1) := by
      show nI 0 < _
      rw [nI_ltq (by omega) (by omega)]; omega
    have e3 : V 0 10 - V (400 + 20 * s) 10 - 1 = cm 45 0 0 - cm 33 0 s := by
      rw [v10, b, e45, a, nI_sub (by omega), nI_sub (by omega), nI_m1 (by omega)]
      congr 1
    rw [e3, b, a, decide_eq_false hn1, decide_eq_true hp, Bool.not_false, Bool.true_and, Bool.true_and]
    have hne : ¬ nI (d + 1) = 0 := nI_nz (by omega) (by omega)
    constructor
    · rw [Bool.eq_iff_iff]
      simp only [Bool.and_eq_true, decide_eq_true_eq]
      rw [hkl, t4]
      constructor
      · rintro ⟨p1, p2, p3⟩; exact ⟨⟨p1, p3⟩, p2⟩
      · rintro ⟨⟨p1, p3⟩, p2⟩; exact ⟨p1, p2, p3⟩
    · intro h
      rw [Bool.and_eq_true, decide_eq_true_eq, t4] at h
      exact ⟨ts', t1, t2, h.1.1, h.1.2, hne⟩
/-! each value lies within the bounds -/
theorem vl_eq {cm : CM} {sh : Sh} {V : CV} {R M G P Dn : Nat} (hRd : RdR cm sh V R M G P Dn) (hW : RwS cm sh V 1 R (nI M)) (hBs : BsS cm R M) : ∀ r, r ≤ R → vlB sh V r = true := by
  obtain ⟨hT, hF, -, -, -, hCe, hCk, -⟩ := hRd
  intro r
  induction r with
  | zero => intro _; rfl
  | succ r ih =>
    intro hr
    rw [vlB, ih (by omega), Bool.true_and, vlC, hW.al, decide_eq_true (show r < R by omega), Bool.true_and]
    cases hal : aliveM cm r (nI M)
    · rfl
    · rw [Bool.not_true, Bool.false_or]
      have hB := hBs r (by omega) hal
      obtain ⟨-, -, -, -, -, hb, -⟩ := hCk (r / 16) (by omega)
      have key : ∀ c, c < 4 → lwC V (100 + 10 * (r / 16) + 2) r c = true := by
        intro c hc
        rw [lwC, hW.val (by omega) hc]
        have hv := lk_vl hT (nI M) (show r < R by omega) hc
        rcases hB c hc with ⟨h5, -⟩ | ⟨h5, h17, h1, h2⟩
        · rw [h5]; rfl
        · obtain ⟨-, -, -, -, f2⟩ := hb c hc
          obtain ⟨g1, g2, -⟩ := f2 h17
          rw [(vl_mp hv).2.1 h5, g1, g2, decide_eq_true (i32_le.mpr h1), decide_eq_true (i32_le.mpr h2), Bool.and_true, Bool.or_true]
      rw [lwB, lwB, lwB, lwB, lwB, key 0 (by omega), key 1 (by omega), key 2 (by omega), key 3 (by omega)]
      rfl
/-! results that are kept, are what comes of the rows now -/
theorem lkup_col {cm : CM} {r c : Nat} {t t' : Int32} : ∀ n, (∀ k, k < n → cm 11 0 k = nI c → (cm 13 0 k ≤ t' ↔ cm 13 0 k ≤ t)) → lkup cm r c t' n = lkup cm r c t n
  | 0, _ => rfl
  | n + 1, h => by
    rw [lkup, lkup, lkup_col n fun k hk => h k (by omega)]
    by_cases hc : cm 11 0 n = nI c
    · simp only [h n (by omega) hc]
    · rw [if_neg (fun q => hc q.2.1), if_neg (fun q => hc q.2.1)]
theorem kp_rows {cm : CM} {sh : Sh} {V : CV} {R M G P Dn s j w ts : Nat} {W : Nat → Nat} (hRd : RdR cm sh V R M G P Dn) (hWt : WtS cm R M G w W) (hs : s < sh.S) (hj : j < sh.F) (ej : cm 23 0 s = nI j) (h27 : cm 27 0 s = nI ts) (hts : ts ≤ M) (hw : w ≤ ts) (hc : ∀ c, c < 4 → tchB cm (nI c) s = true → W c ≤ ts) (h33 : ¬ cm 33 0 s = 0) : ∀ r, r < R → selT cm s r = nowT cm M j r ∧ tkK cm s r = nowK cm M s r ∧ meaK cm s r = nowM cm M s r := by
  obtain ⟨j', ts', -, -, k1, k2, -⟩ := hRd.sc hs
  obtain ⟨hT, hF, -, -, -, -, -, -, -, -, -, -, -, -, -, hSc⟩ := hRd
  obtain ⟨hR, hM, hG, h0, h1, h2, hTL, hTA⟩ := id hT
  have hF30 := hF.2.1
  obtain ⟨j2, ns, ts2, x, y, ⟨a1, a2, a3, a4, a5, a6, a7, a8, a9, b1, b2, hns, -, hdead, -⟩, hts2, hx2, ⟨⟨x1, -, x3, -⟩, -⟩, -, h6⟩ := hSc s hs
  have ets : ts2 = ts := nI_i (a9.symm.trans h27) (by omega) (by omega)
  subst ets
  have hlk : ∀ r c, c < 4 → tchB cm (nI c) s = true → lk cm r c (nI ts2) = lk cm r c (nI M) := by
    intro r c hc4 ht
    have hWc := hc c hc4 ht
    rw [lk, lk, h2, nn_nI (by omega)]
    refine lkup_col G fun k hk ek => ?_
    obtain ⟨c', a, p1, p2, p3, p4⟩ := hWt.2.2.1 k hk
    have : c' = c := nI_i (p2.symm.trans ek) (by omega) (by omega)
    subst this
    rw [p3, nI_leq (by omega) (by omega), nI_leq (by omega) (by omega)]
    omega
  have tkey : ∀ c, c < 4 → cm 24 0 s = nI c → tchB cm (nI c) s = true := fun c _ e => by rw [tchB, e, decide_eq_true (rfl : nI c = nI c)]; simp
  have tmea : ∀ c, c < 4 → cm 25 0 s = nI c → tchB cm (nI c) s = true := fun c _ e => by rw [tchB, e, decide_eq_true (rfl : nI c = nI c)]; simp
  have tab : ∀ c, about cm (nI c) 30 j = true → tchB cm (nI c) s = true := fun c e => by rw [tchB, ej, nn_nI (by omega), e, Bool.or_true]
  intro r hr
  refine ⟨?_, ?_, ?_⟩
  · obtain ⟨⟨a, q1, q2⟩, b, q3, q4⟩ := hWt.2.2.2 r hr
    have hal : aliveM cm r (nI ts2) = decide (cm 9 0 r = 0) := by
      rw [aliveM, q2, q4, decide_eq_true ((nI_leq (by omega) (by omega)).mpr (show a ≤ ts2 by omega)), decide_eq_true ((nI_leq (by omega) (by omega)).mpr (show b ≤ ts2 by omega))]
      simp
    have htr : trF cm r (nI ts2) 30 j = trF cm r (nI M) 30 j := trF_j hF (fun _ _ _ _ _ => rfl) 30 j hj fun c hc4 ha => hlk r c hc4 (tab c ha)
    rw [selT, loT, ej, nn_nI (by omega), h27, hal, htr, nowT]
    by_cases hrn : r < ns
    · have hp : pc10 x = (ns + 15) / 16 := Classical.byContradiction fun q => h33 (h6.mpr q)
      rw [x3 (r / 16) (by omega), pc_all hx2 (by omega) hp (show r / 16 < (ns + 15) / 16 by omega)]
      simp
    · have := hdead r (by omega) hr
      rw [hal] at this
      rw [this, Bool.false_and, Bool.and_false]
  · rw [tkK, nowK, h27]
    rcases k1 with h | ⟨c, hc4, ec⟩
    · rw [h, if_pos (by decide), if_pos (by decide)]
    · rw [ec, nn_nI (by omega), hlk r c hc4 (tkey c hc4 ec)]
  · obtain ⟨c, hc4, ec⟩ := k2
    rw [meaK, nowM, h27, ec, nn_nI (by omega), hlk r c hc4 (tmea c hc4 ec)]
theorem lkI_all {sh : Sh} {V : CV} {o q : Nat} : ∀ n, (∀ i w, i < n → w < 6 → gCe sh V o i w = gCe sh V q i w) → lkI sh V o q n = true
  | 0, _ => rfl
  | n + 1, h => by
    have hw : ∀ m, m ≤ 6 → lkW sh V o q n m = true := by
      intro m
      induction m with
      | zero => intro _; rfl
      | succ m ih => intro hm; rw [lkW, ih (by omega), decide_eq_true (h n m (by omega) (by omega))]; rfl
    rw [lkI, lkI_all n fun i w hi hw => h i w (by omega) hw, hw 6 (Nat.le_refl _)]; rfl
/-- one kept result -/
theorem gk_like {cm : CM} {sh : Sh} {V : CV} {R M G P Dn s j w ts : Nat} {W : Nat → Nat} (hRd : RdR cm sh V R M G P Dn) (hNw : NwS cm sh V R M) (hCl : ClG cm s R) (hWt : WtS cm R M G w W) (hs : s < sh.S) (hj : j < sh.F) (ej : cm 23 0 s = nI j) (h27 : cm 27 0 s = nI ts) (hts : ts ≤ M) (hw : w ≤ ts) (hc : ∀ c, c < 4 → tchB cm (nI c) s = true → W c ≤ ts) (h33 : ¬ cm 33 0 s = 0) : gLk sh (rcT sh V (400 + 20 * s) j R) (400 + 20 * s + 4) 16 = true := by
  have hrow := kp_rows hRd hWt hs hj ej h27 hts hw hc h33
  obtain ⟨K, n, hn, hK, hn1, hc1, hc2⟩ := rc_eq hRd hNw.1 hs hj R (Nat.le_refl _)
  have hf := fun i h0 h1 h2 h3 h4 h5 => rcT_n (sh := sh) (V := V) (q := 400 + 20 * s) (j := j) (i := i) h0 h1 h2 h3 h4 h5 R
  generalize rcT sh V (400 + 20 * s) j R = Z at *
  obtain ⟨hT, hF, -, -, -, -, -, -, -, -, -, -, -, -, -, hSc⟩ := hRd
  have hR := hT.1
  obtain ⟨j2, ns, ts2, x, y, ⟨a1, a2, a3, a4, a5, a6, a7, a8, a9, b1, b2, hns, -, hdead, hroom, -⟩, hts2, hx2, ⟨-, n2, h, ⟨gK, g34, gV, gB, -⟩, -⟩, -, h6⟩ := hSc s hs
  obtain ⟨n3, hn3, c34, cr, cc1, cc2⟩ := hCl
  have hpas : n2 ≤ cntN (fun r => aliveM cm r (nI ts2)) ns := Nat.le_trans gB (cntN_sub ns fun r _ hr => by rw [Bool.and_eq_true] at hr; exact hr.2)
  have hcn := cntN_le (fun r => aliveM cm r (nI ts2)) ns
  have e32 : n3 = n2 := nI_i (c34.symm.trans g34) (by omega) (by omega)
  subst e32
  have ev4 := hf (400 + 20 * s + 4) (by omega) (by omega) (by omega) (by omega) (by omega) (by omega)
  have ev5 := hf (400 + 20 * s + 4 + 1) (by omega) (by omega) (by omega) (by omega) (by omega) (by omega)
  have hrec : ∀ k, recF (nowT cm M j) (nowK cm M s) (nowM cm M s) k R = recF (selT cm s) (tkK cm s) (meaK cm s) k R := fun k => (recF_cg R fun r hr => ⟨(hrow r hr).1, fun _ => (hrow r hr).2⟩).symm
  have u := KrS.uniq gK hK (fun g hg => ?_) (fun g hg => ?_) fun g h hg hh e w' hw' => ?_
  · obtain ⟨u1, u2⟩ := u
    rw [gLk, ev4, gV, hn1, u1, decide_eq_true rfl, Bool.true_and]
    refine lkI_all _ fun i w' hi hw' => ?_
    rw [nn_nI (by omega)] at hi
    have := u2 i (by omega) w' hw'
    rw [gCe, gCe, ev5]
    rw [if_pos (show 6 * i + w' < sh.N (400 + 20 * s + 4 + 1) by rw [show 400 + 20 * s + 4 + 1 = 400 + 20 * s + 5 by omega, hroom]; omega), if_pos (show 6 * i + w' < sh.N 17 by rw [hNw.2.2.2.1]; omega)]
    exact this.symm
  · obtain ⟨r, hr, p1, p2⟩ := cc2 g hg
    obtain ⟨q1, q2, -⟩ := hrow r hr
    rw [q1] at p1
    obtain ⟨h, hh, eh⟩ := hc1 r hr p1
    exact ⟨h, hh, by rw [eh, p2, q2]⟩
  · obtain ⟨r, hr, p1, p2⟩ := hc2 g hg
    obtain ⟨q1, q2, -⟩ := hrow r hr
    rw [← q1] at p1
    obtain ⟨h, hh, eh⟩ := cc1 r hr p1
    exact ⟨h, hh, by rw [eh, p2, q2]⟩
  · show recF _ _ _ (K h) R w' = _
    rw [e, hrec, cr g hg w' hw']
/-- the class finds itself sound -/
theorem snd_eq {cm : CM} {cl : CL} {sh : Sh} {V : CV} {L : Int64} {M : Nat} (H : SR cm cl sh V L M) : (∀ i, i < sh.S → kpB (khT sh V i) (400 + 20 * i) (nn (khT sh V i (400 + 20 * i) 0)) = true → gLk sh (khT sh V (i + 1)) (400 + 20 * i + 4) 16 = true) ∧ vlB sh (khT sh V sh.S) (nn (khT sh V sh.S 1 2)) = true := by
  obtain ⟨R, G, P, Dn, w, W, hRd, hP, hMo, hNw, hWt, hFh, hLn, hTc, hBs, hOp, hCl⟩ := H
  have hR := hRd.1.1
  have hF30 := hRd.2.1.2.1
  have hf := fun i => fun x h0 h1 h2 h3 h4 h5 => khT_n (sh := sh) (V := V) (x := x) h0 h1 h2 h3 h4 h5 i
  have hRd' : ∀ i, RdR cm sh (khT sh V i) R M G P Dn := fun i => hRd.cgv fun x h0 h1 h2 h3 h4 h5 => hf i x h0 h1 h2 h3 h4 h5
  have f1 : ∀ i x, (x ≤ 8 ∨ 18 ≤ x) → khT sh V i x = V x := fun i x hx => hf i x (by omega) (by omega) (by omega) (by omega) (by omega) (by omega)
  have hNw' : ∀ i, NwS cm sh (khT sh V i) R M := fun i => by
    obtain ⟨n1, n2, n3, n4, n5⟩ := hNw
    exact ⟨n1.cg (f1 i 1 (by omega)) (f1 i 2 (by omega)) (f1 i 3 (by omega)), n2, by rw [f1 i 1 (by omega)]; exact n3, n4, n5⟩
  have hMo' : ∀ i, MoS (khT sh V i) M w W := fun i => by
    rw [MoS, f1 i 0 (by omega), f1 i 18 (by omega)]; exact hMo
  refine ⟨fun s hs hk => ?_, ?_⟩
  · obtain ⟨k1, k2⟩ := kept_eq (hRd' s) (hMo' s) hWt hTc hs
    rw [khT, khS, hk, if_pos rfl]
    rw [k1] at hk
    obtain ⟨ts, t1, t2, t3, t4, t5⟩ := k2 hk
    obtain ⟨j, ts', j1, j2, -⟩ := hRd.sc hs
    have ev0 : nn (khT sh V s (400 + 20 * s) 0) = j := by
      obtain ⟨-, -, -, -, -, -, -, -, -, -, -, -, -, -, -, hSc⟩ := hRd
      obtain ⟨j9, -, -, -, -, ⟨-, a2, a3, -⟩, -⟩ := hSc s hs
      rw [f1 s _ (by omega), a2, ← a3, j2, nn_nI (by omega)]
    have er : nn (khT sh V s 1 2) = R := by rw [(hNw' s).1.1, nn_nI (by omega)]
    rw [ev0, er]
    exact gk_like (hRd' s) (hNw' s) (hCl s hs) hWt hs j1 j2 t2 t1 t3 t4 t5
  · have er : nn (khT sh V sh.S 1 2) = R := by rw [(hNw' sh.S).1.1, nn_nI (by omega)]
    rw [er]
    exact vl_eq (hRd' sh.S) (hNw' sh.S).1 hBs R (Nat.le_refl _)


