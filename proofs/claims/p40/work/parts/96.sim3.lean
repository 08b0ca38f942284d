-- deps: 95.sim2 28.mo8 32.mo11 34.mo13 35.mo14 56.chunk2 71.gp8 73.gpa 70.gp7 63.gp0
/-! chunks -/
def CkS (cm : CM) (sh : Sh) (V : CV) (R k : Nat) : Prop :=
  V (100 + 10 * k) 0 = nI (16 * k) ∧ V (100 + 10 * k) 3 = nI (min 16 (R - 16 * k)) ∧ V (100 + 10 * k) 4 = cm 16 0 k ∧ sh.N (100 + 10 * k + 1) = 64 ∧ BdOk sh (100 + 10 * k + 2) ∧ (∀ c, c < 4 → BdS1 cm V (100 + 10 * k + 2) k c) ∧
  ∀ i, i < 16 → ∀ c, c < 4 → (16 * k + i < R → V (100 + 10 * k + 1) (4 * i + c) = mp (bv cm k c i) ∧ vl (bv cm k c i)) ∧ (R ≤ 16 * k + i → V (100 + 10 * k + 1) (4 * i + c) = 0)
theorem v5_0 : v5 0 := by unfold v5; decide
theorem CkS.v5 {cm : CM} {sh : Sh} {V : CV} {R k : Nat} (h : CkS cm sh V R k) {c i : Nat} (hc : c < 4) (hi : i < 16) : v5 (cv V (100 + 10 * k) c i) := by
  obtain ⟨-, -, -, -, -, -, h7⟩ := h
  obtain ⟨a, b⟩ := h7 i hi c hc
  rw [cv]
  by_cases hr : 16 * k + i < R
  · rw [(a hr).1]; exact (vl_mp (a hr).2).2.2
  · rw [b (by omega)]; exact v5_0
theorem CkS.ok {cm : CM} {sh : Sh} {V : CV} {R k : Nat} (h : CkS cm sh V R k) : CkOk sh V (100 + 10 * k) ∧ ∀ c, c < 4 → ∀ i, i < 16 → Jvm.Pilot.CGranaryPartitionLaw_law_r4763_445190.v5 (cv V (100 + 10 * k) c i) :=
  ⟨⟨h.2.2.2.1, h.2.2.2.2.1, _, Nat.min_le_left _ _, h.2.1⟩, fun _ hc _ hi => h.v5 hc hi⟩
theorem rN_min {cm : CM} {R k : Nat} (hR : R ≤ 160) (h0 : cm 0 0 0 = nI R) (hk : 16 * k < R) : rN cm k = min 16 (R - 16 * k) := by
  obtain ⟨h1, h2, h3⟩ := rN_16 (cm := cm) (k := k) ⟨R, hR, hk, h0⟩
  rw [rN, roN, h0, nI_16m, nI_sub (by omega), imin]
  have e : (16 : Int32) = nI 16 := rfl
  rw [e]
  by_cases h : R - 16 * k < 16
  · rw [if_pos ((nI_ltq (by omega) (by omega)).mpr h), nn_nI (by omega)]; omega
  · rw [if_neg (fun h9 => h ((nI_ltq (by omega) (by omega)).mp h9)), nn_nI (by omega)]; omega
theorem rnF_eq {v w : Nat → Int32} {n : Nat} (h : ∀ i, i < n → w i = mp (v i) ∧ vl (v i)) : ∀ m, m ≤ n → sumI (rnF w) m = sumI (rnF v) m := by
  intro m
  induction m with
  | zero => intro _; rfl
  | succ m ih =>
    intro hm
    rw [sumI, sumI, ih (by omega)]
    congr 1
    cases m with
    | zero => rfl
    | succ m =>
      rw [rnF, rnF, (h (m + 1) (by omega)).1, (h m (by omega)).1]
      simp only [mp_inj (h (m + 1) (by omega)).2 (h m (by omega)).2]
theorem nwB_eq {v w : Nat → Int32} {n i : Nat} (h : ∀ i, i < n → w i = mp (v i) ∧ vl (v i)) (hi : i < n) : ∀ j, j ≤ n → nwB w i j = nwB v i j := by
  intro j
  induction j with
  | zero => intro _; rfl
  | succ j ih =>
    intro hj
    rw [nwB, nwB, ih (by omega), (h j (by omega)).1, (h i hi).1]
    simp only [mp_inj (h j (by omega)).2 (h i hi).2]
theorem dfF_eq {v w : Nat → Int32} {n : Nat} (h : ∀ i, i < n → w i = mp (v i) ∧ vl (v i)) : ∀ m, m ≤ n → sumI (dfF w) m = sumI (dfF v) m := by
  intro m
  induction m with
  | zero => intro _; rfl
  | succ m ih =>
    intro hm
    rw [sumI, sumI, ih (by omega), dfF, dfF, nwB_eq h (by omega) m (by omega)]
theorem ofI_eq {v w : Nat → Int32} {n : Nat} (h : ∀ i, i < n → w i = mp (v i) ∧ vl (v i)) : ∀ m, m ≤ n → ofI w m = bbI v m := by
  intro m
  induction m with
  | zero => intro _; rfl
  | succ m ih =>
    intro hm
    rw [ofI, bbI, ih (by omega), (h m (by omega)).1]
    simp only [(vl_mp (h m (by omega)).2).1]
theorem ofLM_eq {v w : Nat → Int32} {n : Nat} (h : ∀ i, i < n → w i = mp (v i) ∧ vl (v i)) : ∀ m, 0 < m → m ≤ n → bbI v m = false → ofL w m = bbL v m ∧ ofM w m = bbM v m := by
  intro m
  induction m with
  | zero => intro h; omega
  | succ m ih =>
    intro _ hm hb
    rw [bbI, Bool.or_eq_false_iff, decide_eq_false_iff_not] at hb
    have hw : w m = v m := by rw [(h m (by omega)).1, (vl_mp (h m (by omega)).2).2.1 hb.2]
    rw [ofL, bbL, ofM, bbM, hw]
    cases m with
    | zero =>
      have hv := (h 0 (by omega)).2.resolve_left hb.2
      have t1 : (5000 : Int32).toInt = 5000 := by decide
      have t2 : (-5000 : Int32).toInt = -5000 := by decide
      rw [ofL, ofM, hw, bbL, bbM, imin, imax, imin, imax, if_neg (Int32.lt_irrefl), if_pos (i32_lt.mpr (by omega)), if_pos (i32_lt.mpr (by omega))]
      exact ⟨rfl, rfl⟩
    | succ m =>
      obtain ⟨a, b⟩ := ih (by omega) (by omega) hb.1
      rw [a, b]
      exact ⟨rfl, rfl⟩
theorem bb_0 (v : Nat → Int32) (n : Nat) : bbF v n (cdI 0) = 11 * nI n := by rw [show cdI 0 = 112 from rfl, bbF, if_pos rfl]
theorem bb_1 (v : Nat → Int32) (n : Nat) : bbF v n (cdI 1) = 15 * sumI (rnF v) n := by rw [show cdI 1 = 114 from rfl, bbF, if_neg (show ¬ (114 : Int32) = 112 by decide), if_pos rfl]
theorem bb_2 (v : Nat → Int32) (n : Nat) : bbF v n (cdI 2) = 11 * sumI (dfF v) n + btI (sumI (dfF v) n) * nI n := by rw [show cdI 2 = 100 from rfl, bbF, if_neg (show ¬ (100 : Int32) = 112 by decide), if_neg (show ¬ (100 : Int32) = 114 by decide), if_pos rfl]
theorem bb_3 (v : Nat → Int32) (n : Nat) : bbF v n (cdI 3) = if bbI v n then 1000000 else 15 + btI (bbM v n - bbL v n + 1) * nI n := by rw [show cdI 3 = 111 from rfl, bbF, if_neg (show ¬ (111 : Int32) = 112 by decide), if_neg (show ¬ (111 : Int32) = 114 by decide), if_neg (show ¬ (111 : Int32) = 100 by decide)]
theorem cq_0 (V : CV) (o c : Nat) : coC V o c 0 = 11 * V o 3 := by rw [coC, if_pos rfl]
theorem cq_1 (V : CV) (o c : Nat) : coC V o c 1 = 15 * sumI (rnF (cv V o c)) (nn (V o 3)) := by rw [coC, if_neg (show ¬ 1 = 0 by decide), if_pos rfl]
theorem cq_2 (V : CV) (o c : Nat) : coC V o c 2 = 11 * sumI (dfF (cv V o c)) (nn (V o 3)) + btI (sumI (dfF (cv V o c)) (nn (V o 3))) * V o 3 := by rw [coC, if_neg (show ¬ 2 = 0 by decide), if_neg (show ¬ 2 = 1 by decide), if_pos rfl]
theorem cq_3 (V : CV) (o c : Nat) : coC V o c 3 = ofC (cv V o c) (nn (V o 3)) := by rw [coC, if_neg (show ¬ 3 = 0 by decide), if_neg (show ¬ 3 = 1 by decide), if_neg (show ¬ 3 = 2 by decide)]
theorem cost_key {v w : Nat → Int32} {n : Nat} (hn : 0 < n) (hv : ∀ i, i < n → w i = mp (v i) ∧ vl (v i)) : ofC w n = (if bbI v n then 1000000 else 15 + btI (bbM v n - bbL v n + 1) * nI n) := by
  rw [ofC, ofI_eq hv n (Nat.le_refl _)]
  by_cases hb : bbI v n = true
  · rw [if_pos hb, if_pos hb]
  · obtain ⟨a, b⟩ := ofLM_eq hv n hn (Nat.le_refl _) (by simpa using hb)
    rw [if_neg hb, if_neg hb, a, b]
theorem CkS.cost {cm : CM} {sh : Sh} {V : CV} {R k c : Nat} (h : CkS cm sh V R k) (hR : R ≤ 160) (h0 : cm 0 0 0 = nI R) (hk : 16 * k < R) (hc : c < 4) : ∀ i, i < 4 → coC V (100 + 10 * k) c i = bbF (bv cm k c) (rN cm k) (cdI i) := by
  obtain ⟨-, e3, -, -, -, -, h7⟩ := h
  have hn : min 16 (R - 16 * k) = rN cm k := (rN_min hR h0 hk).symm
  rw [hn] at e3
  have hn2 : 0 < rN cm k ∧ rN cm k ≤ 16 ∧ 16 * k + rN cm k ≤ R := by omega
  generalize rN cm k = n at hn2 e3
  clear hn
  have hv : ∀ i, i < n → cv V (100 + 10 * k) c i = mp (bv cm k c i) ∧ vl (bv cm k c i) := fun i hi => (h7 i (by omega) c hc).1 (by omega)
  have k1 := rnF_eq hv n (Nat.le_refl _)
  have k2 := dfF_eq hv n (Nat.le_refl _)
  have k3 := cost_key hn2.1 hv
  intro i hi
  rcases (show i = 0 ∨ i = 1 ∨ i = 2 ∨ i = 3 by omega) with rfl | rfl | rfl | rfl
  · rw [cq_0, bb_0, e3]
  · rw [cq_1, bb_1, e3, nn_nI (by omega), k1]
  · rw [cq_2, bb_2, e3, nn_nI (by omega), k2]
  · rw [cq_3, bb_3, e3, nn_nI (by omega), k3]
theorem CkS.best {cm : CM} {sh : Sh} {V : CV} {R k c : Nat} (h : CkS cm sh V R k) (hR : R ≤ 160) (h0 : cm 0 0 0 = nI R) (hk : 16 * k < R) (hc : c < 4) : ∀ i, i ≤ 3 → bst (bv cm k c) (rN cm k) i = cdI (chX (coC V (100 + 10 * k) c) i) := by
  have hco := h.cost hR h0 hk hc
  intro i
  induction i with
  | zero => intro _; rfl
  | succ i ih =>
    intro hi
    have ih := ih (by omega)
    have hle := chX_le (coC V (100 + 10 * k) c) i
    have ew : wy (i + 1) = cdI (i + 1) := by rcases (show i = 0 ∨ i = 1 ∨ i = 2 by omega) with rfl | rfl | rfl <;> decide
    rw [bst, chX, ih, ew, ← hco _ (by omega), ← hco _ (by omega)]
    split <;> rfl
theorem CkS.lc {cm : CM} {sh : Sh} {V : CV} {R k c : Nat} (h : CkS cm sh V R k) (hR : R ≤ 160) (h0 : cm 0 0 0 = nI R) (hk : 16 * k < R) (hc : c < 4) : btC cm k c = lcC V (100 + 10 * k) c := by
  rw [btC, lcC, h.best hR h0 hk hc 3 (by omega), ← h.cost hR h0 hk hc _ (by have := chX_le (coC V (100 + 10 * k) c) 3; omega)]
theorem mb_eq {cm : CM} {sh : Sh} {V : CV} {R : Nat} (hR : R ≤ 160) (h0 : cm 0 0 0 = nI R) : ∀ C, C ≤ (R + 15) / 16 → (∀ k, k < C → CkS cm sh V R k) → mbT cm C = mnT V C := by
  intro C
  induction C with
  | zero => intro _ _; rfl
  | succ C ih =>
    intro hC h
    have hk := h C (by omega)
    rw [mbT, mnT, ih (by omega) fun k hk => h k (by omega)]
    simp only [mbA, mnA]
    rw [hk.lc hR h0 (by omega) (show 0 < 4 by omega), hk.lc hR h0 (by omega) (show 1 < 4 by omega), hk.lc hR h0 (by omega) (show 2 < 4 by omega), hk.lc hR h0 (by omega) (show 3 < 4 by omega)]
/-! bound -/
theorem sumI_cg {F H : Nat → Int32} {n : Nat} (h : ∀ i, i < n → F i = H i) : sumI F n = sumI H n := by
  induction n with
  | zero => rfl
  | succ n ih => rw [sumI, sumI, ih fun i hi => h i (by omega), h n (by omega)]
theorem sumI_z {F : Nat → Int32} {a : Nat} : ∀ n, (∀ i, a ≤ i → i < a + n → F i = 0) → sumI F (a + n) = sumI F a := by
  intro n
  induction n with
  | zero => intro _; rfl
  | succ n ih =>
    intro h
    rw [← Nat.add_assoc, sumI, ih fun i h1 h2 => h i h1 (by omega), h (a + n) (by omega) (by omega), Int32.add_zero]
theorem and_1 : ∀ a : Fin 8, (nI a : Int32) &&& 1 = 0 ∨ (nI a : Int32) &&& 1 = 1 := by decide +kernel
theorem t8_and {x : Int32} (h : t8 x) : x &&& 1 = 0 ∨ x &&& 1 = 1 := by
  obtain ⟨a, rfl⟩ := h
  exact and_1 a
theorem bdA_eq {cm : CM} {f m k : Nat} {e s : Int32} : ∀ n, bdA cm f m k e s n = s + (if cnF cm k 30 f &&& 1 = 1 then (if cm 17 0 (4 * k + m) = 0 then 0 else e) else 0) * sumI (fun i => lvF cm (16 * k + i)) n := by
  intro n
  induction n with
  | zero => rw [bdA, sumI, Int32.mul_zero, Int32.add_zero]
  | succ n ih =>
    rw [bdA, sumI, ih, Int32.mul_add, ← Int32.add_assoc]
    congr 1
    rw [bdV]
    simp only [lvF]
    split
    · rw [Int32.mul_one]
    · rw [Int32.mul_zero]
theorem bw_eq {cm : CM} {sh : Sh} {V : CV} {R M G k j m : Nat} {ab : Bool} (hT : TmR cm R M G) (hF : FR cm sh V) (hW : RwS cm sh V 1 R (nI M)) (hC : CkS cm sh V R k) (hk : 16 * k < R) (hj : j < sh.F) (hm : m < 4) (s : Int32) : bdA cm j m k (bdE cm j m k ab) s (rN cm k) = s + bwR sh V k j m ab := by
  obtain ⟨hR, -, -, h0, -⟩ := id hT
  obtain ⟨-, -, -, -, -, hB, -⟩ := id hC
  have ho : bwW V k j 9 j = cnF cm k 30 j := outF hF (by omega) hB hj
  have ht := ((cnF_oE (q := 100 + 10 * k + 2) hF hB j hj).1)
  have hl : sumI (fun i => lvF cm (16 * k + i)) (rN cm k) = sumI (rLiv sh V 1 (16 * k)) 16 := by
    have e := rN_min hR h0 hk
    have : sumI (rLiv sh V 1 (16 * k)) 16 = sumI (rLiv sh V 1 (16 * k)) (rN cm k) := by
      have e9 := sumI_z (F := rLiv sh V 1 (16 * k)) (a := rN cm k) (16 - rN cm k) fun i h1 h2 => by
        rw [rLiv, hW.al, decide_eq_false (by omega)]
        rfl
      rwa [show rN cm k + (16 - rN cm k) = 16 by omega] at e9
    rw [this]
    refine sumI_cg fun i hi => ?_
    rw [rLiv, hW.al, decide_eq_true (by omega), alive_M hT (by omega), lvF]
    simp
  rw [bdA_eq, hl, bwR, ho]
  congr 1
  have hBm := hB m hm
  rcases t8_and ht with h1 | h1
  · rw [if_neg (show ¬ (cnF cm k 30 j &&& 1 = 1) by rw [h1]; decide), if_pos h1, Int32.zero_mul]
  · rw [if_pos h1, if_neg (show ¬ (cnF cm k 30 j &&& 1 = 0) by rw [h1]; decide), hBm.has]
    by_cases h7 : cm 17 0 (4 * k + m) = 0
    · simp [h7, Int32.zero_mul]
    · simp only [h7, if_false, decide_false, Bool.not_false, if_true]
      congr 1
      obtain ⟨-, -, -, -, f2⟩ := id hBm
      obtain ⟨e1, e2, -⟩ := f2 h7
      rw [bdE, bwE, bwS, ho, hBm.mis, e1, e2]
      by_cases h8 : cnF cm k 30 j = 1 <;> by_cases h9 : cm 18 0 (4 * k + m) = 0 <;> simp [h8, h9]
theorem CkS.cg {cm : CM} {sh : Sh} {V W : CV} {R k : Nat} (h : CkS cm sh V R k) (e : ∀ i, 100 + 10 * k ≤ i → i < 110 + 10 * k → W i = V i) : CkS cm sh W R k := by
  obtain ⟨h1, h2, h3, h4, h5, h6, h7⟩ := h
  rw [CkS, e (100 + 10 * k) (by omega) (by omega), e (100 + 10 * k + 1) (by omega) (by omega)]
  refine ⟨h1, h2, h3, h4, h5, fun c hc => ?_, h7⟩
  have := h6 c hc
  rw [BdS1] at this ⊢
  rw [e (100 + 10 * k + 2 + 1) (by omega) (by omega), e (100 + 10 * k + 2 + 2) (by omega) (by omega), e (100 + 10 * k + 2 + 3) (by omega) (by omega)]
  exact this
theorem RwS.cg {cm : CM} {sh : Sh} {V W : CV} {o n : Nat} {t : Int32} (h : RwS cm sh V o n t) (e0 : W o = V o) (e1 : W (o + 1) = V (o + 1)) (e2 : W (o + 2) = V (o + 2)) : RwS cm sh W o n t := by
  rw [RwS, e0, e1, e2]; exact h
theorem bu_eq {cm : CM} {sh : Sh} {V : CV} {R M G j m : Nat} {ab : Bool} (hT : TmR cm R M G) (hF : FR cm sh V) (hW : RwS cm sh V 1 R (nI M)) (hj : j < sh.F) (hm : m < 4) : ∀ C, C ≤ (R + 15) / 16 → (∀ k, k < C → CkS cm sh V R k) → bdT cm j m ab C = (buT sh V j m ab C).2 := by
  intro C
  induction C with
  | zero => intro _ _; rfl
  | succ C ih =>
    intro hC h
    have hn := fun i (h : i ≠ 9) => buT_n (sh := sh) (V := V) (j := j) (m := m) (ab := ab) h C
    rw [bdT, ih (by omega) fun k hk => h k (by omega), buT]
    refine bw_eq hT (hF.cg fun i h1 h2 => hn i (by omega)) (hW.cg (hn 1 (by omega)) (hn 2 (by omega)) (hn 3 (by omega))) ((h C (by omega)).cg fun i h1 h2 => hn i (by omega)) (by omega) hj hm _
/-! sum -/
theorem su_eq {cm : CM} {sh : Sh} {V : CV} {R M G j m : Nat} (hT : TmR cm R M G) (hF : FR cm sh V) (hW : RwS cm sh V 1 R (nI M)) (hj : j < sh.F) (hm : m < 4) : ∀ r, r ≤ R → sumI (smF cm j m) r = (suT sh V j m r).2 := by
  intro r
  induction r with
  | zero => intro _; rfl
  | succ r ih =>
    intro hr
    have hn := fun i h1 h2 h3 h4 => suT_n (sh := sh) (V := V) (j := j) (m := m) (i := i) h1 h2 h3 h4 r
    have hF2 : FR cm sh (suT sh V j m r).1 := hF.cg fun i h1 h2 => hn i (by omega) (by omega) (by omega) (by omega)
    have hW2 : RwS cm sh (suT sh V j m r).1 1 R (nI M) := hW.cg (hn 1 (by omega) (by omega) (by omega) (by omega)) (hn 2 (by omega) (by omega) (by omega) (by omega)) (hn 3 (by omega) (by omega) (by omega) (by omega))
    have hv := lk_vl hT (nI M) (show r < R by omega) hm
    obtain ⟨-, -, -, -, hM, -⟩ := id hT
    rw [sumI, suT, ih (by omega), hW2.val (by omega) hm, hW2.al, hW2.fc hT hF2 (Nat.le_refl _) (.inl rfl) (by omega) hj, decide_eq_true (show r < R by omega), alive_M hT (by omega), Bool.true_and, smF, hM]
    generalize (suT sh V j m r) = p
    by_cases h9 : cm 9 0 r = 0
    · by_cases h5 : lk cm r m (nI M) = 5000
      · rw [if_pos h9, if_pos h5, if_pos ((vl_mp hv).1.mpr h5), Int32.add_zero]
      · rw [if_pos h9, if_neg h5, if_neg (fun h => h5 ((vl_mp hv).1.mp h)), decide_eq_true h9, if_pos rfl, (vl_mp hv).2.1 h5]
        split
        · rfl
        · exact Int32.add_zero _
    · rw [if_neg h9, decide_eq_false h9, Int32.add_zero]
      split <;> rfl


