-- deps: 9f.simb
def pc10 (x : Nat) : Nat := cntN (fun k => x.testBit k) 10
def LkS (cm : CM) (V : CV) (s x : Nat) : Prop := x < 1024 ∧ V (400 + 20 * s) 8 = nI x ∧ (∀ k, k < 10 → cm 37 0 (10 * s + k) = if x.testBit k then 1 else 0) ∧ cm 29 0 s = nI (pc10 x) ∧ V (400 + 20 * s) 9 = cm 30 0 s
theorem bc_x {x : Nat} (h : x < 1024) : bcF (nI x) = nI (pc10 x) := bc_10 ⟨x, h⟩
theorem or_x {x k : Nat} (h : x < 1024) (hk : k < 10) : (nI x : Int32) ||| ((1 : Int32) <<< (nI k &&& 31)) = nI (x ||| 2 ^ k) := or_10 ⟨x, h⟩ ⟨k, hk⟩
theorem ou_x {x k : Nat} (h : x < 1024) (hk : k < 10) : ouB (nI x) k = !x.testBit k := ou_10 ⟨x, h⟩ ⟨k, hk⟩
theorem or_lt {x k : Nat} (h : x < 1024) (hk : k < 10) : x ||| 2 ^ k < 1024 := Nat.or_lt_two_pow (n := 10) h (Nat.pow_lt_pow_right (by omega) hk)
theorem tb_or {x k i : Nat} : (x ||| 2 ^ k).testBit i = (x.testBit i || decide (k = i)) := by
  rw [Nat.testBit_or, Nat.testBit_two_pow]
theorem cnt_one {p q : Nat → Bool} {k : Nat} (hp : p k = false) (hq : q k = true) (h : ∀ i, i ≠ k → q i = p i) : ∀ n, cntN q n = cntN p n + (if k < n then 1 else 0)
  | 0 => rfl
  | n + 1 => by
    rw [cntN, cntN, cnt_one hp hq h n]
    by_cases e : n = k
    · subst e
      rw [hp, hq, if_neg (show ¬ n < n by omega), if_pos (show n < n + 1 by omega), if_pos rfl, if_neg (by decide)]
    · rw [h n e]
      by_cases hk : k < n
      · rw [if_pos hk, if_pos (show k < n + 1 by omega)]; omega
      · rw [if_neg hk, if_neg (show ¬ k < n + 1 by omega)]; omega
theorem pc_or {x k : Nat} (hk : k < 10) (h : x.testBit k = false) : pc10 (x ||| 2 ^ k) = pc10 x + 1 := by
  rw [pc10, pc10, cnt_one (p := fun i => x.testBit i) (k := k) h (by show (x ||| 2 ^ k).testBit k = true; rw [tb_or, decide_eq_true rfl, Bool.or_true]) (fun i hi => by show (x ||| 2 ^ k).testBit i = _; rw [tb_or, decide_eq_false (fun e => hi e.symm), Bool.or_false]) 10, if_pos hk]
/-! a look: both sides -/
theorem loA_n {cm : CM} {s k : Nat} (h1 : k ≠ 37) (h2 : k ≠ 29) : loA cm s k = cm k := by rw [loA, c3_n h2, c3_n h1]
theorem loA_N {cm : CM} {s : Nat} : FrN cm (loA cm s) := fun k hk => loA_n (fun e => by subst e; exact Bool.noConfusion hk) (fun e => by subst e; exact Bool.noConfusion hk)
theorem lk0_n {V : CV} {j o k q i : Nat} (h9 : i ≠ 9) (ho : i ≠ o) : lk0 V j o k q i = V i := by rw [lk0, ouT_n h9, c2_n _ _ _ ho]
theorem lk0_o {V : CV} {j o k q : Nat} (ho : o ≠ 9) : lk0 V j o k q o = upd (V o) 8 (V o 8 ||| ((1 : Int32) <<< (nI k &&& 31))) := by rw [lk0, ouT_n ho, c2_s]
theorem look_B {cm : CM} {sh : Sh} {V : CV} {R s j P : Nat} (hF : FR cm sh V) (hj : j < sh.F) (e23 : cm 23 0 s = nI j) (e5 : cm 5 0 0 = nI P) (hP : P < 10) (hC : CkS cm sh V R P) : lkB V j (400 + 20 * s) P (100 + 10 * P) = loB cm s := by
  have hF30 := hF.2.1
  have hn : ∀ i, 100 ≤ i → i < 400 → (c2 V (400 + 20 * s) 8 (V (400 + 20 * s) 8 ||| ((1 : Int32) <<< (nI P &&& 31)))) i = V i := fun i h1 h2 => c2_n _ _ _ (by omega)
  have e : lk0 V j (400 + 20 * s) P (100 + 10 * P) 9 j = cnF cm P 30 j := by
    rw [lk0, ← hn (300 + j) (by omega) (by omega)]
    exact outF (hF.cg fun i h1 h2 => hn i (by omega) h2) (by omega) (hC.cg fun i h1 h2 => hn i (by omega) (by omega)).2.2.2.2.2.1 hj
  rw [lkB, e, loB, e5, e23, nn_nI (by omega), nn_nI (by omega)]
/-- the state of a scan on both sides -/
def ScD (cm : CM) (V : CV) (s x B y : Nat) : Prop := LkS cm V s x ∧ ∃ n h, GkS cm V s n B ∧ MmS cm V s h y n
theorem GkS.cgM {cm cm' : CM} {V W : CV} {s n B : Nat} (H : GkS cm V s n B) (h : ∀ k, k = 34 ∨ (38 ≤ k ∧ k ≤ 43) → cm' k = cm k) (h4 : W (400 + 20 * s + 4) = V (400 + 20 * s + 4)) (h5 : W (400 + 20 * s + 4 + 1) = V (400 + 20 * s + 4 + 1)) : GkS cm' W s n B := by
  have e : rsF cm' s = rsF cm s := funext fun g => funext fun w => rsF_cg (by rw [h 38 (by omega)]) (by rw [h 39 (by omega)]) (by rw [h 40 (by omega)]) (by rw [h 41 (by omega)]) (by rw [h 42 (by omega)]) (by rw [h 43 (by omega)]) w
  rw [GkS, h4, h5, e, h 34 (by omega), h 38 (by omega), h 39 (by omega), h 40 (by omega), h 41 (by omega)]
  exact H
theorem cntN_mono {p : Nat → Bool} {m : Nat} : ∀ d, cntN p m ≤ cntN p (m + d)
  | 0 => Nat.le_refl _
  | d + 1 => by
    rw [← Nat.add_assoc, cntN]
    have := cntN_mono (p := p) (m := m) d
    omega
theorem FrN.trans {a b c : CM} (h : FrN a b) (h2 : FrN b c) : FrN a c := fun k hk => (h2 k hk).trans (h k hk)
theorem FrW.trans {o : Nat} {a b c : CV} (h : FrW o a b) (h2 : FrW o b c) : FrW o a c := ⟨fun k h1 h3 h4 => (h2.1 k h1 h3 h4).trans (h.1 k h1 h3 h4), fun k hk => (h2.2 k hk).trans (h.2 k hk)⟩
theorem look_eq {cm : CM} {sh : Sh} {V : CV} {R M G s j ns ts x B y P : Nat} (hT : TmR cm R M G) (hF : FR cm sh V) (H : ScS cm sh V R s j ns ts) (D : ScD cm V s x B y) (hB : B < 700) (e5 : cm 5 0 0 = nI P) (hP : P < 10) (hPR : 16 * P < R) (hC : CkS cm sh V R P) (hx : x.testBit P = false) :
    lkB V j (400 + 20 * s) P (100 + 10 * P) = loB cm s ∧ FrN cm (loC cm s) ∧ FrW (400 + 20 * s) V (lkC sh V j (400 + 20 * s) P (100 + 10 * P) (16 * P)) ∧ lkC sh V j (400 + 20 * s) P (100 + 10 * P) (16 * P) 0 = V 0 ∧ lkC sh V j (400 + 20 * s) P (100 + 10 * P) (16 * P) (400 + 20 * s) 10 = V (400 + 20 * s) 10 ∧ loC cm s 33 = cm 33 ∧ loC cm s 45 = cm 45 ∧ loC cm s 51 = cm 51 ∧ loC cm s 5 = cm 5 ∧ loC cm s 49 = cm 49 ∧
    ScD (loC cm s) (lkC sh V j (400 + 20 * s) P (100 + 10 * P) (16 * P)) s (x ||| 2 ^ P) (B + cntN (fun q => aliveM cm (16 * P + q) (nI ts)) (rN cm P)) y := by
  obtain ⟨a1, a2, a3, -⟩ := id H
  obtain ⟨⟨x1, x2, x3, x4, x5⟩, n, h, g1, g2⟩ := D
  have hF30 := hF.2.1
  obtain ⟨hR, -, -, h0, -⟩ := id hT
  have eB := look_B hF a1 a3 e5 hP hC
  have n0 := fun i (h9 : i ≠ 9) (ho : i ≠ 400 + 20 * s) => lk0_n (V := V) (j := j) (k := P) (q := 100 + 10 * P) h9 ho
  have o0 := lk0_o (V := V) (j := j) (o := 400 + 20 * s) (k := P) (q := 100 + 10 * P) (by omega)
  have fw : FrW (400 + 20 * s) V (lk0 V j (400 + 20 * s) P (100 + 10 * P)) := ⟨fun i hi ho _ => n0 i (v9_n hi).1 ho, fun k hk => by rw [o0, upd_n _ _ (by omega)]⟩
  have H0 := H.cg (loA_N (s := s)) fw
  have G0 : GkS (loA cm s) (lk0 V j (400 + 20 * s) P (100 + 10 * P)) s n B := g1.cgM (fun k hk => loA_n (by omega) (by omega)) (n0 _ (by omega) (by omega)) (n0 _ (by omega) (by omega))
  have M0 : MmS (loA cm s) (lk0 V j (400 + 20 * s) P (100 + 10 * P)) s h y n := g2.cg (loA_n (by decide) (by decide)) (loA_n (by decide) (by decide)) (loA_n (by decide) (by decide)) (loA_n (by decide) (by decide)) (loA_n (by decide) (by decide)) (loA_n (by decide) (by decide)) (fun q _ => by rw [loA_n (k := 38) (by decide) (by decide)]) (n0 _ (by omega) (by omega)) (n0 _ (by omega) (by omega)) (n0 _ (by omega) (by omega))
  have eA : loA cm s = c3 (c3 cm 37 0 (10 * s + P) 1) 29 0 s (cm 29 0 s + 1) := by rw [loA, e5, nn_nI (by omega)]
  have l37 : ∀ k, k < 10 → loA cm s 37 0 (10 * s + k) = if (x ||| 2 ^ P).testBit k then 1 else 0 := by
    intro k hk
    rw [eA, c3_n (by decide), c3_s, tb_or]
    by_cases e : k = P
    · rw [e, upd_s, decide_eq_true rfl, Bool.or_true]; rfl
    · rw [upd_n _ _ (by omega), x3 k hk, decide_eq_false (fun q => e q.symm), Bool.or_false]
  have l29 : loA cm s 29 0 s = nI (pc10 (x ||| 2 ^ P)) := by
    rw [eA, c3_s, upd_s, x4, pc_or hP hx, show (1 : Int32) = nI 1 from rfl, nI_add]
  have l8 : lk0 V j (400 + 20 * s) P (100 + 10 * P) (400 + 20 * s) 8 = nI (x ||| 2 ^ P) := by
    rw [o0, upd_s, x2, or_x x1 hP]
  have l9 : lk0 V j (400 + 20 * s) P (100 + 10 * P) (400 + 20 * s) 9 = cm 30 0 s := by
    rw [o0, upd_n _ _ (by decide), x5]
  have l10 : lk0 V j (400 + 20 * s) P (100 + 10 * P) (400 + 20 * s) 10 = V (400 + 20 * s) 10 := by
    rw [o0, upd_n _ _ (by decide)]
  have l0 := n0 0 (by omega) (by omega)
  refine ⟨eB, ?_⟩
  rw [lkC, eB, loC, a3, e5, nn_nI (by omega), nn_nI (by omega)]
  have hF0 : FR (loA cm s) sh (lk0 V j (400 + 20 * s) P (100 + 10 * P)) := loA_N.fr (hF.cg fun i h1 h2 => n0 i (by omega) (by omega))
  cases hb : loB cm s
  · rw [if_neg (by decide), if_neg (by decide)]
    generalize lk0 V j (400 + 20 * s) P (100 + 10 * P) = W at *
    have hc := fun k (h : k ≠ 30) => c3_n (cm := loA cm s) (k := 30) (i := 0) (j := s) (x := cm 30 0 s + 1) h
    have hv := fun i (h : i ≠ 400 + 20 * s) => c2_n W (i := 400 + 20 * s) (i' := i) 9 (V (400 + 20 * s) 9 + 1) h
    have l30 : loA cm s 30 = cm 30 := loA_n (by decide) (by decide)
    refine ⟨loA_N.trans fun k hk => hc k fun e => by subst e; exact Bool.noConfusion hk, fw.trans ⟨fun i _ ho _ => hv i ho, fun k hk => by rw [c2_s, upd_n _ _ (by omega)]⟩, (hv 0 (by omega)).trans l0, by rw [c2_s, upd_n _ _ (by decide), l10], (hc 33 (by decide)).trans (loA_n (by decide) (by decide)), (hc 45 (by decide)).trans (loA_n (by decide) (by decide)), (hc 51 (by decide)).trans (loA_n (by decide) (by decide)), (hc 5 (by decide)).trans (loA_n (by decide) (by decide)), (hc 49 (by decide)).trans (loA_n (by decide) (by decide)), ⟨or_lt x1 hP, ?_, ?_, ?_, ?_⟩, n, h, ?_, ?_⟩
    · rw [c2_s, upd_n _ _ (by decide), l8]
    · rw [hc 37 (by decide)]; exact l37
    · rw [hc 29 (by decide)]; exact l29
    · rw [c2_s, upd_s, c3_s, upd_s, x5]
    · exact (G0.mono (by omega)).cgM (fun k hk => hc k (by omega)) (hv _ (by omega)) (hv _ (by omega))
    · exact M0.cg (hc _ (by decide)) (hc _ (by decide)) (hc _ (by decide)) (hc _ (by decide)) (hc _ (by decide)) (hc _ (by decide)) (fun q _ => by rw [hc 38 (by decide)]) (hv _ (by omega)) (hv _ (by omega)) (hv _ (by omega))
  · rw [if_pos rfl, if_pos rfl]
    have em := rN_min hR h0 hPR
    obtain ⟨f1, f2, n1, h1, q1, q2⟩ := look_rows (P := P) (loA_N.tm hT) hF0 H0 G0 (by omega) M0 (rN cm P) (by omega) (by omega)
    have e16 : lkR sh (lk0 V j (400 + 20 * s) P (100 + 10 * P)) j (400 + 20 * s) (16 * P) 16 = lkR sh (lk0 V j (400 + 20 * s) P (100 + 10 * P)) j (400 + 20 * s) (16 * P) (rN cm P) := by
      have := look_more (sh := sh) (V := lk0 V j (400 + 20 * s) P (100 + 10 * P)) (j := j) (o := 400 + 20 * s) (a := 16 * P) (m := rN cm P) (16 - rN cm P) fun i hi1 hi2 => by
        obtain ⟨-, -, -, -, -, -, -, -, -, -, -, b3, b4, -⟩ := H0.cg f1.wide (f2.w (v9_f (by omega) (by omega)))
        rw [b4.al, decide_eq_false (by omega)]; rfl
      rwa [show rN cm P + (16 - rN cm P) = 16 by omega] at this
    have hmo : cntN (fun q => aliveM (loA cm s) (16 * P + q) (nI ts)) (rN cm P) ≤ cntN (fun q => aliveM cm (16 * P + q) (nI ts)) (rN cm P) := by
      simp only [loA_N.al]
      exact Nat.le_refl _
    rw [e16]
    have fo := f2 (400 + 20 * s) (v9_f (by omega) (by omega))
    generalize lkR sh (lk0 V j (400 + 20 * s) P (100 + 10 * P)) j (400 + 20 * s) (16 * P) (rN cm P) = Z at *
    generalize lk0 V j (400 + 20 * s) P (100 + 10 * P) = W at *
    refine ⟨loA_N.trans f1.wide, fw.trans (f2.w (v9_f (by omega) (by omega))), (f2 0 (v9_f (by omega) (by omega))).trans l0, by rw [fo, l10], (f1 33 rfl).trans (loA_n (by decide) (by decide)), (f1 45 rfl).trans (loA_n (by decide) (by decide)), (f1 51 rfl).trans (loA_n (by decide) (by decide)), (f1 5 rfl).trans (loA_n (by decide) (by decide)), (f1 49 rfl).trans (loA_n (by decide) (by decide)), ⟨or_lt x1 hP, ?_, ?_, ?_, ?_⟩, n1, h1, q1.mono (by omega), q2⟩
    · rw [fo, l8]
    · rw [f1 37 rfl]; exact l37
    · rw [f1 29 rfl]; exact l29
    · rw [fo, l9, f1 30 rfl, loA_n (by decide) (by decide)]


