-- deps: 93.sim0
/-! a filter over a chunk, over a row -/
def BdS1 (cm : CM) (V : CV) (q k c : Nat) : Prop :=
  b01 (cm 17 0 (4 * k + c)) ∧ b01 (cm 18 0 (4 * k + c)) ∧ V (q + 3) c = cm 18 0 (4 * k + c) ∧
  (cm 17 0 (4 * k + c) = 0 → V (q + 1) c = 1000 ∧ V (q + 2) c = -1000) ∧
  (¬ cm 17 0 (4 * k + c) = 0 → V (q + 1) c = cm 14 0 (4 * k + c) ∧ V (q + 2) c = cm 15 0 (4 * k + c) ∧ -999 ≤ (cm 14 0 (4 * k + c)).toInt ∧ (cm 14 0 (4 * k + c)).toInt ≤ (cm 15 0 (4 * k + c)).toInt ∧ (cm 15 0 (4 * k + c)).toInt ≤ 999)
theorem BdS1.has {cm : CM} {V : CV} {q k c : Nat} (h : BdS1 cm V q k c) : bHas V q c = !decide (cm 17 0 (4 * k + c) = 0) := by
  obtain ⟨-, -, -, h1, h2⟩ := h
  by_cases h9 : cm 17 0 (4 * k + c) = 0
  · obtain ⟨a, b⟩ := h1 h9
    rw [bHas, a, b, h9]; decide
  · obtain ⟨a, b, c1, c2, c3⟩ := h2 h9
    rw [bHas, a, b, decide_eq_true (i32_le.mpr c2), decide_eq_false h9]; rfl
theorem BdS1.mis {cm : CM} {V : CV} {q k c : Nat} (h : BdS1 cm V q k c) : bMis V q c = !decide (cm 18 0 (4 * k + c) = 0) := by
  rw [bMis, h.2.2.1]
theorem cp_109 : ∀ m h : Bool, (if (!m) = true then (0 : Int32) else 1) + (if (!h) = true then (0 : Int32) else 2) = b2i m ||| (if h then 2 else 0) := by decide +kernel
theorem cpF_t8 {V : CV} {o q c : Nat} : t8 (cpF V o q c) := by
  rw [cpF]
  split
  · generalize bMis V q c = m
    generalize bHas V q c = h
    have : ∀ m h : Bool, ∃ a : Fin 8, b2i m ||| (if h then (2 : Int32) else 0) = nI a := by decide +kernel
    exact this m h
  · split
    · obtain ⟨b, hb⟩ := @cw_t8 (V o 0) (decide (V (q + 1) c < V o 2)) (decide (V (q + 1) c ≤ V o 2) && decide (V o 2 ≤ V (q + 2) c)) (decide (V o 2 < V (q + 2) c))
      rw [cwB, hb]
      split
      · exact or_tt 4 b
      · exact or_tt 0 b
    · split
      · exact ⟨4, rfl⟩
      · exact ⟨0, rfl⟩
theorem cnF_oE {cm : CM} {sh : Sh} {V : CV} {q k : Nat} (h : FR cm sh V) (hB : ∀ c, c < 4 → BdS1 cm V q k c) : ∀ i, i < sh.F → t8 (cnF cm k 30 i) ∧ ∀ m, ouB m i = false → (isJ (cm 19 0 i) = true → ouB m (nn (V (300 + i) 3)) = false ∧ ouB m (nn (V (300 + i) 4)) = false) → oE V q m (cnF cm k 30) i := by
  intro i
  induction i using Nat.strongRecOn with
  | _ i ih =>
    intro hi
    have hF := h.2.1
    obtain ⟨e0, -, -, a, b, -, -⟩ := h.2.2 i hi
    cases hJ : isJ (cm 19 0 i)
    · obtain ⟨hk, c, hc, ec, e1, e2⟩ := b hJ
      have hB := hB c hc
      have e : cnF cm k 30 i = cpF V (300 + i) q c := by
        rw [cnF, cpF, hJ, e0, hB.has, hB.mis, ec, nn_nI (by omega)]
        simp only [Bool.false_eq_true, if_false]
        by_cases h9 : cm 19 0 i = 109
        · rw [if_pos h9, if_pos h9]
          by_cases h7 : cm 17 0 (4 * k + c) = 0 <;> by_cases h8 : cm 18 0 (4 * k + c) = 0 <;> simp only [h7, h8, if_true, if_false, decide_true, decide_false, Bool.not_true, Bool.not_false, Bool.false_eq_true] <;> decide
        · rw [if_neg h9, if_neg h9]
          obtain ⟨b7, b8, e3, f1, f2⟩ := hB
          by_cases h7 : cm 17 0 (4 * k + c) = 0
          · simp only [h7, if_true, decide_true, Bool.not_true, Bool.false_eq_true, if_false]
            by_cases h8 : cm 18 0 (4 * k + c) = 0 <;> simp [h8]
          · obtain ⟨g1, g2, g3, g4, g5⟩ := f2 h7
            simp only [h7, if_false, decide_false, Bool.not_false, if_true]
            have hs : t8 (if cm 18 0 (4 * k + c) = 0 then (0 : Int32) else 4) := by split; exact ⟨0, rfl⟩; exact ⟨4, rfl⟩
            rw [cnV_cw (by rcases hk with h | h | h | h; exact .inl h; exact .inr (.inl h); exact .inr (.inr h); exact absurd h h9) hs (by omega) g4 (by omega), cwB, e0, e2, g1, g2]
            by_cases h8 : cm 18 0 (4 * k + c) = 0 <;> simp [h8]
      refine ⟨e ▸ cpF_t8, fun m hm _ => ⟨fun hj => ?_, fun _ => ?_⟩⟩
      · rw [e0, hJ] at hj; exact Bool.noConfusion hj
      · rw [e, e1, nn_nI (by omega)]
    · obtain ⟨x, y, hx, hy, ex, e3, e4, en, ey⟩ := a hJ
      have ix := (ih x hx (by omega)).1
      have iy := (ih y hy (by omega)).1
      have e : cnF cm k 30 i = joF (cm 19 0 i) (cnF cm k 30 x) (cnF cm k 30 y) := by
        rw [← cj_jo hJ ix iy, cnF, hJ, ex]
        simp only [if_true]
        rw [nn_nI (by omega), cnF_d h k 30 x 29 30 (by omega) (by omega) (by omega) (by omega)]
        by_cases h9 : cm 19 0 i = 110
        · rw [if_pos h9, if_pos h9]
        · rw [if_neg h9, if_neg h9, ey h9, nn_nI (by omega), cnF_d h k 30 y 29 30 (by omega) (by omega) (by omega) (by omega)]
      refine ⟨e ▸ jo_t8 hJ ix iy, fun m hm hc => ⟨fun _ => ?_, fun hj => ?_⟩⟩
      · obtain ⟨c1, c2⟩ := hc rfl
        refine ⟨by rw [e3, nn_nI (by omega)]; exact hx, c1, by rw [e4, nn_nI (by omega)]; exact hy, c2, ?_⟩
        rw [e0, e3, e4, nn_nI (by omega), nn_nI (by omega), e]
      · rw [e0, hJ] at hj; exact Bool.noConfusion hj
theorem outF {cm : CM} {sh : Sh} {V : CV} {q k : Nat} (h : FR cm sh V) (hq : 10 ≤ q) (hB : ∀ c, c < 4 → BdS1 cm V q k c) {j : Nat} (hj : j < sh.F) : ouT V q (V (300 + j) 7) (j + 1) 9 j = cnF cm k 30 j := by
  have hF := h.2.1
  obtain ⟨-, -, hm, -, -, -, hc⟩ := h.2.2 j hj
  refine ouT_E hq (j + 1) (fun i hi hb => ?_) j (by omega) hm
  exact (cnF_oE h hB i (by omega)).2 _ hb (hc i (by omega) hb).2.1
/-! a single row -/
def BdX (V : CV) (q c : Nat) (x : Int32) : Prop :=
  V (q + 1) c = (if x = -1000 then 1000 else x) ∧ V (q + 2) c = (if x = -1000 then -1000 else x) ∧ V (q + 3) c = (if x = -1000 then 1 else 0)
theorem bAd_X {V : CV} {c : Nat} {x : Int32} (hx : x = -1000 ∨ (-999 ≤ x.toInt ∧ x.toInt ≤ 999)) : BdX (bAd (bFc V 10 c) 10 c x) 10 c x := by
  rw [BdX, bAd]
  by_cases h : x = -1000
  · subst h
    simp [c2, bFc, upd]
  · have hx := hx.resolve_left h
    simp only [h, if_false]
    have t1 : (1000 : Int32).toInt = 1000 := by decide
    have t2 : (-1000 : Int32).toInt = -1000 := by decide
    have e1 : imin 1000 x = x := by rw [imin, if_pos (i32_lt.mpr (by omega))]
    have e2 : imax (-1000) x = x := by rw [imax, if_pos (i32_lt.mpr (by omega))]
    simp [c2, bFc, upd, e1, e2]
theorem fcT_X {V : CV} {q r : Nat} {m : Int32} {n : Nat} (hx : ∀ c, c < n → rVal V q r c = -1000 ∨ (-999 ≤ (rVal V q r c).toInt ∧ (rVal V q r c).toInt ≤ 999)) (hq : q = 1 ∨ 400 ≤ q) : ∀ c, c < n → ouB m c = false → BdX (fcT V q r m n) 10 c (rVal V q r c) := by
  induction n with
  | zero => intro c h; omega
  | succ n ih =>
    intro c hc hb
    have ih := ih fun c h => hx c (by omega)
    rw [fcT]
    by_cases hcn : c = n
    · subst hcn
      simp only [hb, Bool.false_eq_true, if_false]
      exact bAd_X (hx c (by omega))
    · have ih := ih c (by omega) hb
      split
      · exact ih
      · generalize fcT V q r m n = W at ih
        obtain ⟨i1, i2, i3⟩ := ih
        rw [BdX, ← i1, ← i2, ← i3, bAd]
        split <;> simp [c2, bFc, upd, hcn]
theorem tr_cp {V : CV} {q o c : Nat} {x : Int32} (hk : V o 0 = 60 ∨ V o 0 = 61 ∨ V o 0 = 62 ∨ V o 0 = 109) (hB : BdX V q c (mp x)) (hx : vl x) : cpF V o q c = (if V o 0 = 109 then (if x = 5000 then 1 else 2) else if x = 5000 then 4 else if fulB (V o 0) x (V o 2) then 1 else 2) := by
  obtain ⟨b1, b2, b3⟩ := hB
  by_cases h5 : x = 5000
  · rw [mp, if_pos h5, if_pos rfl] at b1 b2 b3
    have e1 : bHas V q c = false := by rw [bHas, b1, b2]; decide
    have e2 : bMis V q c = true := by rw [bMis, b3]; decide
    rw [cpF, e1, e2, if_pos h5, if_pos h5]
    rfl
  · have hx := hx.resolve_left h5
    have e9 : mp x = x := if_neg h5
    have hn : ¬ x = -1000 := by rw [i32_eq]; have : (-1000 : Int32).toInt = -1000 := by decide
                                omega
    rw [e9, if_neg hn] at b1 b2 b3
    have e1 : bHas V q c = true := by rw [bHas, b1, b2]; exact decide_eq_true (Int32.le_refl _)
    have e2 : bMis V q c = false := by rw [bMis, b3]; decide
    rw [cpF, e1, e2, if_neg h5, if_neg h5, cwB, b1, b2]
    generalize V o 2 = n
    generalize V o 0 = kd at hk
    rcases hk with rfl | rfl | rfl | rfl
    · by_cases h : x < n
      · have : ¬ (n ≤ x) := Int32.not_le.mpr h
        have h2 : ¬ n < x := fun h2 => Int32.lt_irrefl (Int32.lt_trans h h2)
        simp [cwF, fulB, h, this, h2, b2i]
      · have hle : n ≤ x := Int32.not_lt.mp h
        by_cases h2 : n < x
        · have : ¬ x ≤ n := Int32.not_le.mpr h2
          simp [cwF, fulB, h, h2, b2i]
        · have : x ≤ n := Int32.not_lt.mp h2
          simp [cwF, fulB, h, hle, this, b2i]
    · by_cases h : x = n
      · subst h
        simp [cwF, fulB, b2i, Int32.lt_irrefl]
      · by_cases h2 : n < x
        · have : ¬ x ≤ n := Int32.not_le.mpr h2
          simp [cwF, fulB, h, h2, b2i, this]
        · have h3 : x ≤ n := Int32.not_lt.mp h2
          have h4 : x < n := by rw [i32_lt]; rw [i32_le] at h3; rw [i32_eq] at h; omega
          have : ¬ n ≤ x := Int32.not_le.mpr h4
          simp [cwF, fulB, h, h4, b2i, this]
    · by_cases h : n < x
      · have : ¬ (x ≤ n) := Int32.not_le.mpr h
        have h2 : ¬ x < n := fun h2 => Int32.lt_irrefl (Int32.lt_trans h h2)
        simp [cwF, fulB, h, this, h2, b2i]
      · have hle : x ≤ n := Int32.not_lt.mp h
        by_cases h2 : x < n
        · have : ¬ n ≤ x := Int32.not_le.mpr h2
          simp [cwF, fulB, h, h2, b2i]
        · have : n ≤ x := Int32.not_lt.mp h2
          simp [cwF, fulB, h, hle, this, b2i]
    · rfl
theorem trF_oE {cm : CM} {sh : Sh} {V : CV} {q r : Nat} {t : Int32} (h : FR cm sh V) (hL : ∀ c, c < 4 → vl (lk cm r c t)) {n : Nat} {m : Int32} (hn : n ≤ sh.F) (hB : ∀ i c, i < n → ouB m i = false → isJ (cm 19 0 i) = false → cm 20 0 i = nI c → c < 4 → BdX V q c (mp (lk cm r c t))) : ∀ i, i < n → tv (trF cm r t 30 i) ∧ (ouB m i = false → (isJ (cm 19 0 i) = true → ouB m (nn (V (300 + i) 3)) = false ∧ ouB m (nn (V (300 + i) 4)) = false) → oE V q m (trF cm r t 30) i) := by
  intro i
  induction i using Nat.strongRecOn with
  | _ i ih =>
    intro hi
    have hF := h.2.1
    obtain ⟨e0, -, -, a, b, -, -⟩ := h.2.2 i (by omega)
    cases hJ : isJ (cm 19 0 i)
    · obtain ⟨hk, c, hc, ec, e1, e2⟩ := b hJ
      have h9 : ∀ k, isJ k = true → ¬ cm 19 0 i = k := fun k hk e => by rw [← e, hJ] at hk; exact Bool.noConfusion hk
      have e : trF cm r t 30 i = (if cm 19 0 i = 109 then (if lk cm r c t = 5000 then 1 else 2) else if lk cm r c t = 5000 then 4 else if fulB (cm 19 0 i) (lk cm r c t) (cm 21 0 i) then 1 else 2) := by
        rw [trF, if_neg (h9 110 (by decide)), if_neg (h9 97 (by decide)), if_neg (h9 111 (by decide)), ec, nn_nI (by omega)]
      refine ⟨?_, fun hm _ => ⟨fun hj => ?_, fun _ => ?_⟩⟩
      · rw [e]
        repeat' split
        all_goals first | exact .inl rfl | exact .inr (.inl rfl) | exact .inr (.inr rfl)
      · rw [e0, hJ] at hj; exact Bool.noConfusion hj
      · have := tr_cp (o := 300 + i) (by rw [e0]; exact hk) (hB i c hi hm hJ ec hc) (hL c hc)
        rw [e1, nn_nI (by omega), this, e, e0, e2]
    · obtain ⟨x, y, hx, hy, ex, e3, e4, en, ey⟩ := a hJ
      have ix := (ih x hx (by omega)).1
      have iy := (ih y hy (by omega)).1
      obtain ⟨j1, j2, j3, j4, j5⟩ := jo_tv ix iy
      have e : trF cm r t 30 i = joF (cm 19 0 i) (trF cm r t 30 x) (trF cm r t 30 y) ∧ tv (trF cm r t 30 i) := by
        have dx := trF_d h r t 30 x 29 30 (by omega) (by omega) (by omega) (by omega)
        have dy := trF_d h r t 30 y 29 30 (by omega) (by omega) (by omega) (by omega)
        rw [trF, ex, nn_nI (by omega), dx]
        rcases isJ_iff.mp hJ with h1 | h1 | h1
        · rw [ey (by rw [h1]; decide), nn_nI (by omega), dy, h1, if_neg (by decide), if_pos rfl, j2]
          exact ⟨rfl, j5⟩
        · rw [ey (by rw [h1]; decide), nn_nI (by omega), dy, h1, if_neg (by decide), if_neg (by decide), if_pos rfl, j3]
          refine ⟨rfl, ?_⟩
          exact (jo_tv (jo_tv (jo_tv ix ix).2.2.2.1 (jo_tv iy iy).2.2.2.1).2.2.2.2 ix).2.2.2.1
        · rw [h1, if_pos rfl, j1]
          exact ⟨rfl, j4⟩
      refine ⟨e.2, fun hm hc => ⟨fun _ => ?_, fun hj => ?_⟩⟩
      · obtain ⟨c1, c2⟩ := hc rfl
        refine ⟨by rw [e3, nn_nI (by omega)]; exact hx, c1, by rw [e4, nn_nI (by omega)]; exact hy, c2, ?_⟩
        rw [e0, e3, e4, nn_nI (by omega), nn_nI (by omega), e.1]
      · rw [e0, hJ] at hj; exact Bool.noConfusion hj
def fil (V W : CV) : Prop := ∀ i, 300 ≤ i → W i = V i
theorem FR1.cg {cm : CM} {V W : CV} {j : Nat} (h : FR1 cm V j) (e : ∀ i, 300 ≤ i → i < 400 → W i = V i) (hj : j < 30) : FR1 cm W j := by
  obtain ⟨h1, h2, h3, h4, h5, h6, h7⟩ := h
  rw [FR1, e (300 + j) (by omega) (by omega)]
  refine ⟨h1, h2, h3, h4, h5, h6, fun i hi hb => ?_⟩
  rw [e (300 + i) (by omega) (by omega)]
  exact h7 i hi hb
theorem FR.cg {cm : CM} {sh : Sh} {V W : CV} (h : FR cm sh V) (e : ∀ i, 300 ≤ i → i < 400 → W i = V i) : FR cm sh W :=
  ⟨h.1, h.2.1, fun j hj => (h.2.2 j hj).cg e (by have := h.2.1; omega)⟩
theorem fcF {cm : CM} {sh : Sh} {V : CV} {q r : Nat} {t : Int32} (h : FR cm sh V) (hq : q = 1 ∨ 400 ≤ q) (hL : ∀ c, c < 4 → vl (lk cm r c t)) (hV : ∀ c, c < 4 → rVal V q r c = mp (lk cm r c t)) {j : Nat} (hj : j < sh.F) : fcW V j q r 9 j = trF cm r t 30 j := by
  have hF := h.2.1
  obtain ⟨-, -, hm, -, -, hcol, hc⟩ := h.2.2 j hj
  have hv : ∀ c, c < 4 → rVal V q r c = -1000 ∨ (-999 ≤ (rVal V q r c).toInt ∧ (rVal V q r c).toInt ≤ 999) := by
    intro c hc
    rw [hV c hc, mp]
    split
    · exact .inl rfl
    · rcases hL c hc with h | h
      · exact absurd h ‹_›
      · exact .inr h
  have hX := fcT_X (m := V (300 + j) 6) hv hq
  have h2 : FR cm sh (fcT V q r (V (300 + j) 6) 4) := h.cg fun i h1 h2 => fcT_n (by omega) (by omega) (by omega) 4
  rw [fcW]
  refine ouT_E (by omega) (j + 1) (fun i hi hb => ?_) j (by omega) hm
  refine (trF_oE h2 hL (n := j + 1) (by omega) (fun i c hi hb hJ ec hc4 => ?_) i hi).2 hb (fun hJ => ?_)
  · rw [← hV c hc4]
    refine hX c hc4 ?_
    have := (hc i (by omega) hb).2.2 hJ
    rwa [ec, nn_nI (by omega)] at this
  · have := (hc i (by omega) hb).2.1 hJ
    rw [fcT_n (by omega) (by omega) (by omega)]
    exact this


