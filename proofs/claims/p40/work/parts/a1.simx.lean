-- deps: a0.simw
/-! by the bounds, a filter can be what it is for a row -/
def tvF (i : Fin 3) : Int32 := if i = 0 then 1 else if i = 1 then 2 else 4
theorem tv_F {x : Int32} (h : tv x) : ∃ i, x = tvF i := by
  rcases h with rfl | rfl | rfl
  · exact ⟨0, rfl⟩
  · exact ⟨1, rfl⟩
  · exact ⟨2, rfl⟩
theorem cj_in : ∀ a b : Fin 8, ∀ i j : Fin 3, ¬ tvF i &&& nI a = 0 → ¬ tvF j &&& nI b = 0 → ¬ bothI (tvF i) (tvF j) &&& cjF 97 (nI a) (nI b) = 0 ∧ ¬ notI (bothI (notI (tvF i)) (notI (tvF j))) &&& cjF 111 (nI a) (nI b) = 0 ∧ ¬ notI (tvF i) &&& cjF 110 (nI a) 1 = 0 := by decide +kernel
theorem tr_or {s : Int32} (hs : t8 s) (p q : Bool) : (p = true → ¬ 1 &&& ((s ||| b2i p) ||| (if q then 2 else 0)) = 0) ∧ (q = true → ¬ 2 &&& ((s ||| b2i p) ||| (if q then 2 else 0)) = 0) := by
  obtain ⟨a, rfl⟩ := hs
  have : ∀ a : Fin 8, ∀ p q : Bool, (p = true → ¬ 1 &&& ((nI a ||| b2i p) ||| (if q then 2 else 0)) = (0 : Int32)) ∧ (q = true → ¬ 2 &&& ((nI a ||| b2i p) ||| (if q then 2 else 0)) = (0 : Int32)) := by decide +kernel
  exact this a p q
theorem tr_or4 {s : Int32} (hs : t8 s) (h4 : ¬ 4 &&& s = 0) (p q : Bool) : ¬ 4 &&& ((s ||| b2i p) ||| (if q then 2 else 0)) = 0 := by
  obtain ⟨a, rfl⟩ := hs
  have : ∀ a : Fin 8, ∀ p q : Bool, ¬ 4 &&& nI a = (0 : Int32) → ¬ 4 &&& ((nI a ||| b2i p) ||| (if q then 2 else 0)) = (0 : Int32) := by decide +kernel
  exact this a p q h4
theorem tr_cn {cm : CM} {sh : Sh} {V : CV} {q r k : Nat} {t : Int32} (h : FR cm sh V) (hB : ∀ c, c < 4 → BdS1 cm V q k c) (hI : ∀ c, c < 4 → BdI cm (4 * k + c) (lk cm r c t)) : ∀ i, i < sh.F → tv (trF cm r t 30 i) ∧ ¬ trF cm r t 30 i &&& cnF cm k 30 i = 0 := by
  intro i
  induction i using Nat.strongRecOn with
  | _ i ih =>
    intro hi
    have hF := h.2.1
    obtain ⟨e0, -, -, a, b, -, -⟩ := h.2.2 i hi
    cases hJ : isJ (cm 19 0 i)
    · obtain ⟨hk, c, hc, ec, e1, e2⟩ := b hJ
      have h9 : ∀ k, isJ k = true → ¬ cm 19 0 i = k := fun k hk e => by rw [← e, hJ] at hk; exact Bool.noConfusion hk
      rw [trF, if_neg (h9 110 (by decide)), if_neg (h9 97 (by decide)), if_neg (h9 111 (by decide)), cnF, hJ, ec, nn_nI (by omega)]
      simp only [Bool.false_eq_true, if_false]
      have hI := hI c hc
      obtain ⟨b7, b8, -, -, f2⟩ := hB c hc
      by_cases h109 : cm 19 0 i = 109
      · rw [if_pos h109, if_pos h109]
        rcases hI with ⟨h5, h18⟩ | ⟨h5, h17, -⟩
        · rw [if_pos h5, if_neg h18]
          refine ⟨.inl rfl, ?_⟩
          split <;> decide
        · rw [if_neg h5, if_neg h17]
          refine ⟨.inr (.inl rfl), ?_⟩
          split <;> decide
      · rw [if_neg h109, if_neg h109]
        have hs : t8 (if cm 18 0 (4 * k + c) = 0 then (0 : Int32) else 4) := by split; exact ⟨0, rfl⟩; exact ⟨4, rfl⟩
        rcases hI with ⟨h5, h18⟩ | ⟨h5, h17, hlo, hhi⟩
        · rw [if_pos h5]
          refine ⟨.inr (.inr rfl), ?_⟩
          rw [if_neg h18]
          split
          · decide
          · have h4 : t8 (4 : Int32) := ⟨4, rfl⟩
            rw [cnV_fu _ _ _ h4]
            exact tr_or4 h4 (by decide) _ _
        · rw [if_neg h5, if_neg h17, cnV_fu _ _ _ hs]
          obtain ⟨-, -, g3, g4, g5⟩ := f2 h17
          have em : ((cnN (cm 14 0 (4 * k + c)) (cm 15 0 (4 * k + c)) : Nat) : Int) = (cm 15 0 (4 * k + c)).toInt - (cm 14 0 (4 * k + c)).toInt + 1 := by rw [cnN]; omega
          cases hf : fulB (cm 19 0 i) (lk cm r c t) (cm 21 0 i)
          · rw [if_neg (by decide)]
            refine ⟨.inr (.inl rfl), (tr_or hs _ _).2 ?_⟩
            rw [fu1_iff _ _ (by omega) (by omega)]
            exact ⟨_, hlo, by omega, hf⟩
          · rw [if_pos rfl]
            refine ⟨.inl rfl, (tr_or hs _ _).1 ?_⟩
            rw [fu1_iff _ _ (by omega) (by omega)]
            exact ⟨_, hlo, by omega, hf⟩
    · obtain ⟨x, y, hx, hy, ex, e3, e4, en, ey⟩ := a hJ
      obtain ⟨tx, ix⟩ := ih x hx (by omega)
      obtain ⟨ty, iy⟩ := ih y hy (by omega)
      obtain ⟨cx, ecx⟩ := (cnF_oE h hB x (by omega)).1
      obtain ⟨cy, ecy⟩ := (cnF_oE h hB y (by omega)).1
      obtain ⟨px, epx⟩ := tv_F tx
      obtain ⟨py, epy⟩ := tv_F ty
      obtain ⟨-, -, -, j4, j5⟩ := jo_tv tx ty
      have dx := trF_d h r t 30 x 29 30 (by omega) (by omega) (by omega) (by omega)
      have dy := trF_d h r t 30 y 29 30 (by omega) (by omega) (by omega) (by omega)
      have kx := cnF_d h k 30 x 29 30 (by omega) (by omega) (by omega) (by omega)
      have ky := cnF_d h k 30 y 29 30 (by omega) (by omega) (by omega) (by omega)
      rw [ecx, epx] at ix
      rw [ecy, epy] at iy
      obtain ⟨k1, k2, k3⟩ := cj_in cx cy px py ix iy
      rw [trF, cnF, hJ, ex, nn_nI (by omega), dx, kx]
      simp only [if_true]
      rcases isJ_iff.mp hJ with h1 | h1 | h1
      · rw [ey (by rw [h1]; decide), nn_nI (by omega), dy, ky, h1, if_neg (by decide), if_pos rfl, if_neg (by decide), ecx, ecy, epx, epy]
        rw [epx, epy] at j5
        exact ⟨j5, k1⟩
      · rw [ey (by rw [h1]; decide), nn_nI (by omega), dy, ky, h1, if_neg (by decide), if_neg (by decide), if_pos rfl, if_neg (by decide), ecx, ecy, epx, epy]
        refine ⟨?_, k2⟩
        rw [← epx, ← epy]
        exact (jo_tv (jo_tv (jo_tv tx tx).2.2.2.1 (jo_tv ty ty).2.2.2.1).2.2.2.2 tx).2.2.2.1
      · rw [h1, if_pos rfl, if_pos rfl, ecx, epx]
        rw [epx] at j4
        exact ⟨j4, k3⟩
/-! a look at a chunk keeps the closed form -/
theorem FrN.tr {cm cm' : CM} {sh : Sh} {V : CV} (h : FrN cm cm') (hF : FR cm sh V) {r j : Nat} {t : Int32} (hj : j < sh.F) : trF cm' r t 30 j = trF cm r t 30 j :=
  trF_j hF (fun k j h1 h2 _ => by rw [h k (by simp only [m18, m12, Bool.or_eq_false_iff, beq_eq_false_iff_ne]; omega)]) 30 j hj fun c _ _ => h.lk r c t
theorem FrN.lo {cm cm' : CM} {sh : Sh} {V : CV} (h : FrN cm cm') (hF : FR cm sh V) {s r j : Nat} (hj : j < sh.F) : loT cm' s j r = loT cm s j r := by
  rw [loT, loT, h 27 rfl, h.al, h.tr hF hj]
theorem FrN.tk {cm cm' : CM} (h : FrN cm cm') (s r : Nat) : tkK cm' s r = tkK cm s r := by rw [tkK, tkK, h 24 rfl, h 27 rfl, h.lk]
theorem FrN.me {cm cm' : CM} (h : FrN cm cm') (s r : Nat) : meaK cm' s r = meaK cm s r := by rw [meaK, meaK, h 25 rfl, h 27 rfl, h.lk]
theorem ClF.same {cm cm' : CM} {s R : Nat} {T : Nat → Bool} {key mea : Nat → Int32} (H : ClF cm s R T key mea) (h : cm' 34 0 s = cm 34 0 s) (h2 : ∀ k, 38 ≤ k → k ≤ 43 → cm' k s = cm k s) : ClF cm' s R T key mea := by
  refine H.row (fun k j hk => ?_) h2
  rcases hk with ⟨rfl, rfl⟩ | hk
  · exact h
  · exact hk.elim
theorem look_cl {cm : CM} {sh : Sh} {V : CV} {R M G s j ns ts x y P : Nat} (hT : TmR cm R M G) (hF : FR cm sh V) (H : ScS cm sh V R s j ns ts) (D : ScD cm V s x (pas x (fun r => aliveM cm r (nI ts)) ns) y) (e5 : cm 5 0 0 = nI P) (hP : P < 10) (hPR : 16 * P < R) (hC : CkS cm sh V R P) (hx : x.testBit P = false) (hcl : ClG cm s R) (hbs : BsS cm R ts) : ClG (loC cm s) s R := by
  obtain ⟨a1, a2, a3, -, a5, -, a7, -, a9, -, -, hns, -⟩ := id H
  have hF30 := hF.2.1
  have hR := hT.1
  obtain ⟨⟨x1, x2, x3, x4, x5⟩, n, h, g1, g2⟩ := id D
  have e23 : nn (cm 23 0 s) = j := by rw [a3, nn_nI (by omega)]
  have eP : nn (cm 5 0 0) = P := by rw [e5, nn_nI (by omega)]
  have hBl : pas x (fun r => aliveM cm r (nI ts)) ns ≤ ns := cntN_le _ ns
  have hrN := rN_min hR hT.2.2.2.1 hPR
  have hsel : ∀ r, selT cm s r = (!decide (cm 37 0 (10 * s + r / 16) = 0) && loT cm s j r) := fun r => by rw [selT, e23]
  have hsP : ∀ r, r / 16 = P → selT cm s r = false := fun r hr => by rw [hsel, hr, x3 P hP, hx]; rfl
  have a37 : ∀ q, loA cm s 37 0 q = if q = 10 * s + P then 1 else cm 37 0 q := by
    intro q
    rw [loA, c3_n (by decide), c3_s, eP]
    rfl
  -- what is chosen, is chosen as before
  have fin : ∀ cm' : CM, FrN cm cm' → (∀ q, cm' 37 0 q = if q = 10 * s + P then 1 else cm 37 0 q) → ClF cm' s R (fun r => selT cm s r || (decide (r / 16 = P) && loT cm s j r)) (tkK cm s) (meaK cm s) → ClG cm' s R := by
    intro cm' hN h37 hc
    refine hc.ext fun r hr => ⟨?_, fun _ => ⟨hN.tk s r, hN.me s r⟩⟩
    rw [selT, hN 23 rfl, e23, hN.lo hF a1, h37, hsel]
    by_cases hrP : r / 16 = P
    · rw [if_pos (by omega), hrP, x3 P hP, hx, decide_eq_true (show P = P from rfl)]
      simp
    · rw [if_neg (by omega), decide_eq_false hrP, Bool.false_and, Bool.or_false]
  rw [loC, e23, eP]
  cases hb : loB cm s
  · rw [if_neg (by decide)]
    have h0 : cnF cm P 30 j &&& 1 = 0 := by
      rw [loB, e23, eP, Bool.not_eq_false', decide_eq_true_eq] at hb
      exact hb
    have hno : ∀ r, r < R → r / 16 = P → loT cm s j r = false := by
      intro r hr hrP
      rw [loT, a9]
      cases hal : aliveM cm r (nI ts)
      · rfl
      · have hB := hbs r hr hal
        rw [hrP] at hB
        obtain ⟨t1, t2⟩ := tr_cn (q := 100 + 10 * P + 2) hF hC.2.2.2.2.2.1 hB j a1
        rw [Bool.true_and, decide_eq_false_iff_not]
        intro e1
        rw [e1, Int32.and_comm] at t2
        exact t2 h0
    have nk : ∀ k, k ≠ 30 → k ≠ 37 → k ≠ 29 → c3 (loA cm s) 30 0 s (cm 30 0 s + 1) k = cm k := fun k h1 h2 h3 => by rw [c3_n h1, loA_n h2 h3]
    refine fin _ (fun k hk => ?_) (fun q => by rw [c3_n (by decide)]; exact a37 q) ?_
    · simp only [m18, m12, Bool.or_eq_false_iff, beq_eq_false_iff_ne] at hk
      exact nk k (by omega) (by omega) (by omega)
    · refine ClF.same (ClF.ext hcl fun r hr => ⟨?_, fun _ => ⟨rfl, rfl⟩⟩) (by rw [nk 34 (by decide) (by decide) (by decide)]) (fun k h1 h2 => by rw [nk k (by omega) (by omega) (by omega)])
      by_cases hrP : r / 16 = P
      · rw [hno r hr hrP, Bool.and_false, Bool.or_false]
      · rw [decide_eq_false hrP, Bool.false_and, Bool.or_false]
  · rw [if_pos rfl]
    have n0 := fun i (h9 : i ≠ 9) (ho : i ≠ 400 + 20 * s) => lk0_n (V := V) (j := j) (k := P) (q := 100 + 10 * P) h9 ho
    have o0 := lk0_o (V := V) (j := j) (o := 400 + 20 * s) (k := P) (q := 100 + 10 * P) (by omega)
    have fw : FrW (400 + 20 * s) V (lk0 V j (400 + 20 * s) P (100 + 10 * P)) := ⟨fun i hi ho _ => n0 i (v9_n hi).1 ho, fun k hk => by rw [o0, upd_n _ _ (by omega)]⟩
    have H0 := H.cg (loA_N (s := s)) fw
    have G0 : GkS (loA cm s) (lk0 V j (400 + 20 * s) P (100 + 10 * P)) s n (pas x (fun r => aliveM cm r (nI ts)) ns) := g1.cgM (fun k hk => loA_n (by omega) (by omega)) (n0 _ (by omega) (by omega)) (n0 _ (by omega) (by omega))
    have M0 : MmS (loA cm s) (lk0 V j (400 + 20 * s) P (100 + 10 * P)) s h y n := g2.cg (loA_n (by decide) (by decide)) (loA_n (by decide) (by decide)) (loA_n (by decide) (by decide)) (loA_n (by decide) (by decide)) (loA_n (by decide) (by decide)) (loA_n (by decide) (by decide)) (fun q _ => by rw [loA_n (k := 38) (by decide) (by decide)]) (n0 _ (by omega) (by omega)) (n0 _ (by omega) (by omega)) (n0 _ (by omega) (by omega))
    have hF0 : FR (loA cm s) sh (lk0 V j (400 + 20 * s) P (100 + 10 * P)) := loA_N.fr (hF.cg fun i h1 h2 => n0 i (by omega) (by omega))
    have hA : FrN cm (loA cm s) := loA_N
    have hrows := fun i hi hiR => look_rows (P := P) (hA.tm hT) hF0 H0 G0 (by omega) M0 i hi hiR
    simp only [hA.al] at hrows
    have loop : ∀ i, i ≤ rN cm P → ClF (loR (loA cm s) s P j i) s R (fun r => selT cm s r || ((decide (16 * P ≤ r) && decide (r < 16 * P + i)) && loT cm s j r)) (tkK cm s) (meaK cm s) := by
      intro i
      induction i with
      | zero =>
        intro _
        refine ClF.same (ClF.ext hcl fun r hr => ⟨?_, fun _ => ⟨rfl, rfl⟩⟩) (by rw [loR, loA_n (by decide) (by decide)]) (fun k h1 h2 => by rw [loR, loA_n (by omega) (by omega)])
        have : (decide (16 * P ≤ r) && decide (r < 16 * P + 0)) = false := by
          rw [Bool.and_eq_false_iff, decide_eq_false_iff_not, decide_eq_false_iff_not]; omega
        rw [this, Bool.false_and, Bool.or_false]
      | succ i ihi =>
        intro hi
        have ihi := ihi (by omega)
        obtain ⟨f1, f2, n1, h1, q1, -⟩ := hrows i (by omega) (by omega)
        have hN1 : FrN cm (loR (loA cm s) s P j i) := hA.trans f1.wide
        have hci := cntN_le (fun q => aliveM cm (16 * P + q) (nI ts)) i
        rw [loR, hN1.lo hF a1]
        generalize loR (loA cm s) s P j i = ci at *
        have hlt : (16 * P + i) / 16 = P := by omega
        cases hlo : loT cm s j (16 * P + i)
        · rw [if_neg (by decide)]
          refine ClF.ext ihi fun r hr => ⟨?_, fun _ => ⟨rfl, rfl⟩⟩
          by_cases e : r = 16 * P + i
          · rw [e, hlo, Bool.and_false, Bool.and_false]
          · congr 2
            rw [Bool.eq_iff_iff, Bool.and_eq_true, Bool.and_eq_true, decide_eq_true_eq, decide_eq_true_eq, decide_eq_true_eq]; omega
        · rw [if_pos rfl]
          have hts0 : vl (tkK cm s (16 * P + i)) := by
            rw [tkK]
            split
            · exact .inr (by decide)
            · rcases a5 with h | ⟨c, hc, ec⟩
              · rename_i h9; exact absurd (by rw [h]; decide) h9
              · rw [ec, nn_nI (by omega)]; exact lk_vl hT _ (by omega) hc
          have hms0 : vl (meaK cm s (16 * P + i)) := by
            obtain ⟨c, hc, ec⟩ := a7
            rw [meaK, ec, nn_nI (by omega)]; exact lk_vl hT _ (by omega) hc
          have := tkC_cl (r := 16 * P + i) ihi q1 (by omega) (by omega) (by
            rw [hsP _ hlt, Bool.false_or]
            have : decide (16 * P + i < 16 * P + i) = false := decide_eq_false (by omega)
            rw [this, Bool.and_false, Bool.false_and]) hts0 hms0 (hN1.tk s _) (hN1.me s _) rfl rfl
          refine ClF.ext this fun r hr => ⟨?_, fun _ => ⟨rfl, rfl⟩⟩
          by_cases e : r = 16 * P + i
          · subst e
            have e1 : decide (16 * P ≤ 16 * P + i) = true := decide_eq_true (by omega)
            have e2 : decide (16 * P + i < 16 * P + (i + 1)) = true := decide_eq_true (by omega)
            rw [hlo, e1, e2, decide_eq_true (show 16 * P + i = 16 * P + i from rfl)]; simp
          · rw [decide_eq_false e, Bool.or_false]
            congr 2
            rw [Bool.eq_iff_iff, Bool.and_eq_true, Bool.and_eq_true, decide_eq_true_eq, decide_eq_true_eq, decide_eq_true_eq]; omega
    obtain ⟨f1, -⟩ := hrows (rN cm P) (by omega) (by omega)
    refine fin _ (hA.trans f1.wide) (fun q => by rw [f1 37 rfl]; exact a37 q) (ClF.ext (loop (rN cm P) (Nat.le_refl _)) fun r hr => ⟨?_, fun _ => ⟨rfl, rfl⟩⟩)
    congr 2
    rw [Bool.eq_iff_iff, Bool.and_eq_true, decide_eq_true_eq, decide_eq_true_eq, decide_eq_true_eq]; omega


