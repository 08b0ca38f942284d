-- deps: 60.chooses 33.mo12 57.filter
/-! both sides: filters -/
def mp (x : Int32) : Int32 := if x = 5000 then -1000 else x
def vl (x : Int32) : Prop := x = 5000 ∨ (-999 ≤ x.toInt ∧ x.toInt ≤ 999)
theorem i32_lt {x y : Int32} : x < y ↔ x.toInt < y.toInt := Int32.lt_iff_toInt_lt
theorem i32_le {x y : Int32} : x ≤ y ↔ x.toInt ≤ y.toInt := Int32.le_iff_toInt_le
theorem i32_eq {x y : Int32} : x = y ↔ x.toInt = y.toInt := ⟨fun h => by rw [h], fun h => Int32.toInt_inj.mp h⟩
theorem cj_8 : ∀ a b : Fin 8, cjF 97 (nI a) (nI b) = joF 97 (nI a) (nI b) ∧ cjF 111 (nI a) (nI b) = joF 111 (nI a) (nI b) ∧ cjF 110 (nI a) 1 = negI (nI a) := by decide +kernel
def t8 (x : Int32) : Prop := ∃ a : Fin 8, x = nI a
theorem isJ_iff {k : Int32} : isJ k = true ↔ k = 97 ∨ k = 111 ∨ k = 110 := by simp [isJ, or_assoc]
theorem cj_jo {k x y : Int32} (hk : isJ k = true) (hx : t8 x) (hy : t8 y) : cjF k x (if k = 110 then 1 else y) = joF k x y := by
  obtain ⟨a, rfl⟩ := hx
  obtain ⟨b, rfl⟩ := hy
  rcases isJ_iff.mp hk with rfl | rfl | rfl
  · rw [if_neg (by decide)]; exact (cj_8 a b).1
  · rw [if_neg (by decide)]; exact (cj_8 a b).2.1
  · rw [if_pos rfl, joF, if_pos rfl]; exact (cj_8 a b).2.2
theorem jo_8 : ∀ a b : Fin 8, (∃ c : Fin 8, joF 97 (nI a) (nI b) = nI c) ∧ (∃ c : Fin 8, joF 111 (nI a) (nI b) = nI c) ∧ ∃ c : Fin 8, joF 110 (nI a) (nI b) = nI c := by decide +kernel
theorem jo_t8 {k x y : Int32} (hk : isJ k = true) (hx : t8 x) (hy : t8 y) : t8 (joF k x y) := by
  obtain ⟨a, rfl⟩ := hx
  obtain ⟨b, rfl⟩ := hy
  rcases isJ_iff.mp hk with rfl | rfl | rfl
  · exact (jo_8 a b).1
  · exact (jo_8 a b).2.1
  · exact (jo_8 a b).2.2
def tv (x : Int32) : Prop := x = 1 ∨ x = 2 ∨ x = 4
theorem jo_tv {x y : Int32} (hx : tv x) (hy : tv y) : joF 110 x y = notI x ∧ joF 97 x y = bothI x y ∧ joF 111 x y = notI (bothI (notI x) (notI y)) ∧ tv (notI x) ∧ tv (bothI x y) := by
  rcases hx with rfl | rfl | rfl <;> rcases hy with rfl | rfl | rfl <;> refine ⟨?_, ?_, ?_, ?_, ?_⟩ <;> first | decide | (unfold tv; decide)
/-! one way upwards works all of them out -/
def oE (V : CV) (q : Nat) (m : Int32) (E : Nat → Int32) (i : Nat) : Prop :=
  (isJ (V (300 + i) 0) = true → nn (V (300 + i) 3) < i ∧ ouB m (nn (V (300 + i) 3)) = false ∧ nn (V (300 + i) 4) < i ∧ ouB m (nn (V (300 + i) 4)) = false ∧ E i = joF (V (300 + i) 0) (E (nn (V (300 + i) 3))) (E (nn (V (300 + i) 4)))) ∧
  (isJ (V (300 + i) 0) = false → E i = cpF V (300 + i) q (nn (V (300 + i) 1)))
theorem ouT_E {V : CV} {q : Nat} {m : Int32} {E : Nat → Int32} (hq : 10 ≤ q) : ∀ J, (∀ i, i < J → ouB m i = false → oE V q m E i) → ∀ i, i < J → ouB m i = false → ouT V q m J 9 i = E i := by
  intro J
  induction J with
  | zero => intro _ i h; omega
  | succ J ih =>
    intro H i hi hb
    have ih := ih (fun i h => H i (by omega))
    rw [ouT]
    by_cases hJ : i = J
    · subst hJ
      rw [hb]
      simp only [Bool.false_eq_true, if_false]
      rw [c2_s, upd_s, ouX]
      obtain ⟨h1, h2⟩ := H i (by omega) hb
      cases hj : isJ (V (300 + i) 0)
      · simp only [Bool.false_eq_true, if_false]
        exact (h2 hj).symm
      · obtain ⟨a1, a2, b1, b2, e⟩ := h1 hj
        simp only [if_true]
        rw [ih _ a1 a2, ih _ b1 b2, e]
    · cases ouB m J
      · simp only [Bool.false_eq_true, if_false]
        rw [c2_s, upd_n _ _ hJ]
        exact ih i (by omega) hb
      · simp only [if_true]
        exact ih i (by omega) hb
/-! what stands in the filters -/
def FR1 (cm : CM) (V : CV) (j : Nat) : Prop :=
  V (300 + j) 0 = cm 19 0 j ∧ V (300 + j) 5 = cm 22 0 j ∧ ouB (V (300 + j) 7) j = false ∧
  (isJ (cm 19 0 j) = true → ∃ a b, a < j ∧ b < j ∧ cm 20 0 j = nI a ∧ V (300 + j) 3 = nI a ∧ V (300 + j) 4 = nI b ∧ (cm 19 0 j = 110 → b = a) ∧ (¬ cm 19 0 j = 110 → cm 21 0 j = nI b)) ∧
  (isJ (cm 19 0 j) = false → (cm 19 0 j = 60 ∨ cm 19 0 j = 61 ∨ cm 19 0 j = 62 ∨ cm 19 0 j = 109) ∧ ∃ c, c < 4 ∧ cm 20 0 j = nI c ∧ V (300 + j) 1 = nI c ∧ V (300 + j) 2 = cm 21 0 j) ∧
  (∀ c, c < 4 → ouB (V (300 + j) 6) c = !about cm (nI c) 30 j) ∧
  ∀ i, i < 30 → ouB (V (300 + j) 7) i = false → i ≤ j ∧ (isJ (cm 19 0 i) = true → ouB (V (300 + j) 7) (nn (V (300 + i) 3)) = false ∧ ouB (V (300 + j) 7) (nn (V (300 + i) 4)) = false) ∧ (isJ (cm 19 0 i) = false → ouB (V (300 + j) 6) (nn (cm 20 0 i)) = false)
def FR (cm : CM) (sh : Sh) (V : CV) : Prop := cm 3 0 0 = nI sh.F ∧ sh.F ≤ 30 ∧ ∀ j, j < sh.F → FR1 cm V j
theorem FR.FOk {cm : CM} {sh : Sh} {V : CV} (h : FR cm sh V) : FOk cm := by
  obtain ⟨h1, h2, h3⟩ := h
  refine ⟨⟨_, h2, h1⟩, fun f hf => ?_⟩
  rw [h1, nn_nI (by omega)] at hf
  obtain ⟨-, -, -, a, b, -, -⟩ := h3 f hf
  refine ⟨fun hj => ?_, fun hj => ?_⟩
  · obtain ⟨x, y, hx, hy, ex, -, -, -, ey⟩ := a hj
    exact ⟨⟨x, hx, ex⟩, fun hn => ⟨y, hy, ey hn⟩⟩
  · obtain ⟨-, c, hc, ec, -, -⟩ := b hj
    exact ⟨c, hc, ec⟩
theorem FR.FlOk {cm : CM} {sh : Sh} {V : CV} (h : FR cm sh V) : FlOk sh V := by
  obtain ⟨h1, h2, h3⟩ := h
  intro i hi
  obtain ⟨e0, -, -, a, b, -, -⟩ := h3 i hi
  rw [e0]
  refine ⟨fun hj => ?_, fun hj => ?_⟩
  · obtain ⟨x, y, hx, hy, -, ex, ey, -, -⟩ := a hj
    exact ⟨⟨x, hx, ex⟩, y, hy, ey⟩
  · obtain ⟨-, c, hc, -, ec, -⟩ := b hj
    exact ⟨c, hc, ec⟩
/-! the depth does not matter -/
theorem about_d {cm : CM} {sh : Sh} {V : CV} (h : FR cm sh V) (col : Int32) : ∀ n j d d', j < n → j < sh.F → j < d → j < d' → about cm col d j = about cm col d' j := by
  intro n
  induction n with
  | zero => intro j d d' h; omega
  | succ n ih =>
    intro j d d' hn hj hd hd'
    obtain ⟨d, rfl⟩ : ∃ e, d = e + 1 := ⟨d - 1, by omega⟩
    obtain ⟨d', rfl⟩ : ∃ e, d' = e + 1 := ⟨d' - 1, by omega⟩
    obtain ⟨-, -, -, a, -, -, -⟩ := h.2.2 j hj
    have hF := h.2.1
    rw [about, about]
    cases hJ : isJ (cm 19 0 j)
    · rfl
    · obtain ⟨x, y, hx, hy, ex, -, -, -, ey⟩ := a hJ
      simp only [if_true]
      rw [ex, nn_nI (by omega), ih x d d' (by omega) (by omega) (by omega) (by omega)]
      by_cases h9 : cm 19 0 j = 110
      · simp [h9]
      · rw [ey h9, nn_nI (by omega), ih y d d' (by omega) (by omega) (by omega) (by omega)]
theorem trF_d {cm : CM} {sh : Sh} {V : CV} (h : FR cm sh V) (r : Nat) (m : Int32) : ∀ n j d d', j < n → j < sh.F → j < d → j < d' → trF cm r m d j = trF cm r m d' j := by
  intro n
  induction n with
  | zero => intro j d d' h; omega
  | succ n ih =>
    intro j d d' hn hj hd hd'
    obtain ⟨d, rfl⟩ : ∃ e, d = e + 1 := ⟨d - 1, by omega⟩
    obtain ⟨d', rfl⟩ : ∃ e, d' = e + 1 := ⟨d' - 1, by omega⟩
    obtain ⟨-, -, -, a, -, -, -⟩ := h.2.2 j hj
    have hF := h.2.1
    rw [trF, trF]
    by_cases h9 : cm 19 0 j = 110
    · obtain ⟨x, y, hx, hy, ex, -, -, -, ey⟩ := a (isJ_iff.mpr (.inr (.inr h9)))
      rw [if_pos h9, if_pos h9, ex, nn_nI (by omega), ih x d d' (by omega) (by omega) (by omega) (by omega)]
    · rw [if_neg h9, if_neg h9]
      by_cases h7 : cm 19 0 j = 97
      · obtain ⟨x, y, hx, hy, ex, -, -, -, ey⟩ := a (isJ_iff.mpr (.inl h7))
        rw [if_pos h7, if_pos h7, ex, ey h9, nn_nI (by omega), nn_nI (by omega), ih x d d' (by omega) (by omega) (by omega) (by omega), ih y d d' (by omega) (by omega) (by omega) (by omega)]
      · rw [if_neg h7, if_neg h7]
        by_cases h1 : cm 19 0 j = 111
        · obtain ⟨x, y, hx, hy, ex, -, -, -, ey⟩ := a (isJ_iff.mpr (.inr (.inl h1)))
          rw [if_pos h1, if_pos h1, ex, ey h9, nn_nI (by omega), nn_nI (by omega), ih x d d' (by omega) (by omega) (by omega) (by omega), ih y d d' (by omega) (by omega) (by omega) (by omega)]
        · rw [if_neg h1, if_neg h1]
theorem cnF_d {cm : CM} {sh : Sh} {V : CV} (h : FR cm sh V) (k : Nat) : ∀ n j d d', j < n → j < sh.F → j < d → j < d' → cnF cm k d j = cnF cm k d' j := by
  intro n
  induction n with
  | zero => intro j d d' h; omega
  | succ n ih =>
    intro j d d' hn hj hd hd'
    obtain ⟨d, rfl⟩ : ∃ e, d = e + 1 := ⟨d - 1, by omega⟩
    obtain ⟨d', rfl⟩ : ∃ e, d' = e + 1 := ⟨d' - 1, by omega⟩
    obtain ⟨-, -, -, a, -, -, -⟩ := h.2.2 j hj
    have hF := h.2.1
    rw [cnF, cnF]
    cases hJ : isJ (cm 19 0 j)
    · rfl
    · obtain ⟨x, y, hx, hy, ex, -, -, -, ey⟩ := a hJ
      simp only [if_true]
      rw [ex, nn_nI (by omega), ih x d d' (by omega) (by omega) (by omega) (by omega)]
      by_cases h9 : cm 19 0 j = 110
      · simp [h9]
      · rw [ey h9, nn_nI (by omega), ih y d d' (by omega) (by omega) (by omega) (by omega)]
/-! all values between two bounds -/
def fu1 (kd n : Int32) (w : Bool) : Nat → Int32 → Bool
  | 0, _ => false
  | m + 1, v => (fulB kd v n == w) || fu1 kd n w m (v + 1)
theorem or_8 : ∀ a : Fin 8, ∀ p q : Bool, (((nI a : Int32) ||| 1) ||| b2i p) ||| (if q then 2 else 0) = (nI a ||| b2i true) ||| (if q then 2 else 0) ∧ (((nI a : Int32) ||| 2) ||| b2i p) ||| (if q then 2 else 0) = (nI a ||| b2i p) ||| (if true then 2 else 0) := by decide +kernel
theorem or_t8 : ∀ a : Fin 8, (∃ b : Fin 8, (nI a : Int32) ||| 1 = nI b) ∧ ∃ b : Fin 8, (nI a : Int32) ||| 2 = nI b := by decide +kernel
theorem cnV_fu {kd n : Int32} : ∀ (m : Nat) (v s : Int32), t8 s → cnV kd n m v s = (s ||| b2i (fu1 kd n true m v)) ||| (if fu1 kd n false m v then 2 else 0) := by
  intro m
  induction m with
  | zero =>
    intro v s hs
    obtain ⟨a, rfl⟩ := hs
    rw [cnV, fu1, fu1]
    revert a; decide +kernel
  | succ m ih =>
    intro v s hs
    obtain ⟨a, rfl⟩ := hs
    rw [cnV, fu1, fu1]
    cases hf : fulB kd v n
    · simp only [Bool.false_eq_true, if_false]
      rw [ih _ _ ((or_t8 a).2), (or_8 a _ _).2]
      rfl
    · simp only [if_true]
      rw [ih _ _ ((or_t8 a).1), (or_8 a _ _).1]
      rfl
theorem fu1_iff {kd n : Int32} {w : Bool} : ∀ (m : Nat) (v : Int32), -5000 ≤ v.toInt → v.toInt + m ≤ 5001 → (fu1 kd n w m v = true ↔ ∃ x : Int32, v.toInt ≤ x.toInt ∧ x.toInt < v.toInt + m ∧ fulB kd x n = w) := by
  intro m
  induction m with
  | zero =>
    intro v h1 h2
    rw [fu1]
    exact ⟨fun h => Bool.noConfusion h, fun ⟨x, a, b, _⟩ => by exfalso; omega⟩
  | succ m ih =>
    intro v h1 h2
    have e : (v + 1).toInt = v.toInt + 1 := v5_succ ⟨h1, by omega⟩
    rw [fu1, Bool.or_eq_true, ih (v + 1) (by omega) (by omega), beq_iff_eq, e]
    constructor
    · rintro (h | ⟨x, a, b, c⟩)
      · exact ⟨v, by omega, by omega, h⟩
      · exact ⟨x, by omega, by omega, c⟩
    · rintro ⟨x, a, b, c⟩
      by_cases hx : x.toInt = v.toInt
      · rw [← i32_eq] at hx; subst hx; exact .inl c
      · exact .inr ⟨x, by omega, by omega, c⟩
theorem cnV_cw {kd n lo hi s : Int32} (hk : kd = 60 ∨ kd = 61 ∨ kd = 62) (hs : t8 s) (h1 : -5000 ≤ lo.toInt) (h2 : lo.toInt ≤ hi.toInt) (h3 : hi.toInt ≤ 5000) : cnV kd n (cnN lo hi) lo s = s ||| cwF kd (decide (lo < n)) (decide (lo ≤ n) && decide (n ≤ hi)) (decide (n < hi)) := by
  have em : ((cnN lo hi : Nat) : Int) = hi.toInt - lo.toInt + 1 := by rw [cnN]; omega
  rw [cnV_fu _ _ _ hs, Int32.or_assoc]
  have key : ∀ w, fu1 kd n w (cnN lo hi) lo = true ↔ ∃ x : Int32, lo.toInt ≤ x.toInt ∧ x.toInt ≤ hi.toInt ∧ fulB kd x n = w := by
    intro w
    rw [fu1_iff _ _ h1 (by omega)]
    exact exists_congr fun x => ⟨fun ⟨a, b, c⟩ => ⟨a, by omega, c⟩, fun ⟨a, b, c⟩ => ⟨a, by omega, c⟩⟩
  have kt := key true
  have kf := key false
  clear key
  generalize fu1 kd n true (cnN lo hi) lo = p at kt
  generalize fu1 kd n false (cnN lo hi) lo = q at kf
  congr 1
  simp only [i32_lt, i32_le]
  rcases hk with rfl | rfl | rfl
  · simp only [fulB, if_true, decide_eq_true_eq, decide_eq_false_iff_not, i32_lt] at kt kf
    have e1 : p = decide (lo.toInt < n.toInt) := by
      rw [Bool.eq_iff_iff, kt, decide_eq_true_eq]
      exact ⟨fun ⟨x, a, b, c⟩ => by omega, fun h => ⟨lo, by omega, by omega, h⟩⟩
    have e2 : q = decide (n.toInt ≤ hi.toInt) := by
      rw [Bool.eq_iff_iff, kf, decide_eq_true_eq]
      exact ⟨fun ⟨x, a, b, c⟩ => by omega, fun h => ⟨hi, by omega, by omega, by omega⟩⟩
    rw [e1, e2, cwF, if_pos rfl]
    have e3 : ((decide (lo.toInt ≤ n.toInt) && decide (n.toInt ≤ hi.toInt)) || decide (n.toInt < hi.toInt)) = decide (n.toInt ≤ hi.toInt) := by
      rw [Bool.eq_iff_iff]
      simp only [Bool.or_eq_true, Bool.and_eq_true, decide_eq_true_eq]
      omega
    rw [e3]
  · simp only [fulB, show ¬ (61 : Int32) = 60 by decide, if_true, if_false, decide_eq_true_eq, decide_eq_false_iff_not] at kt kf
    have e1 : p = (decide (lo.toInt ≤ n.toInt) && decide (n.toInt ≤ hi.toInt)) := by
      rw [Bool.eq_iff_iff, kt, Bool.and_eq_true, decide_eq_true_eq, decide_eq_true_eq]
      exact ⟨fun ⟨x, a, b, c⟩ => by subst c; omega, fun h => ⟨n, h.1, h.2, rfl⟩⟩
    have e2 : q = (decide (lo.toInt < n.toInt) || decide (n.toInt < hi.toInt)) := by
      rw [Bool.eq_iff_iff, kf, Bool.or_eq_true, decide_eq_true_eq, decide_eq_true_eq]
      constructor
      · rintro ⟨x, a, b, c⟩
        rw [i32_eq] at c
        omega
      · rintro (h | h)
        · exact ⟨lo, by omega, by omega, by rw [i32_eq]; omega⟩
        · exact ⟨hi, by omega, by omega, by rw [i32_eq]; omega⟩
    rw [e1, e2, cwF, if_neg (show ¬ (61 : Int32) = 60 by decide), if_neg (show ¬ (61 : Int32) = 62 by decide)]
  · simp only [fulB, show ¬ (62 : Int32) = 60 by decide, show ¬ (62 : Int32) = 61 by decide, if_false, decide_eq_true_eq, decide_eq_false_iff_not, i32_lt] at kt kf
    have e1 : p = decide (n.toInt < hi.toInt) := by
      rw [Bool.eq_iff_iff, kt, decide_eq_true_eq]
      exact ⟨fun ⟨x, a, b, c⟩ => by omega, fun h => ⟨hi, by omega, by omega, h⟩⟩
    have e2 : q = decide (lo.toInt ≤ n.toInt) := by
      rw [Bool.eq_iff_iff, kf, decide_eq_true_eq]
      exact ⟨fun ⟨x, a, b, c⟩ => by omega, fun h => ⟨lo, by omega, by omega, by omega⟩⟩
    rw [e1, e2, cwF, if_neg (show ¬ (62 : Int32) = 60 by decide), if_pos rfl]
    have e3 : ((decide (lo.toInt ≤ n.toInt) && decide (n.toInt ≤ hi.toInt)) || decide (lo.toInt < n.toInt)) = decide (lo.toInt ≤ n.toInt) := by
      rw [Bool.eq_iff_iff]
      simp only [Bool.or_eq_true, Bool.and_eq_true, decide_eq_true_eq]
      omega
    rw [e3]
theorem cw_t8 {kd : Int32} {l e r : Bool} : t8 (cwF kd l e r) := by
  have h : ∀ l e r : Bool, (∃ a : Fin 8, cwF 60 l e r = nI a) ∧ (∃ a : Fin 8, cwF 61 l e r = nI a) ∧ ∃ a : Fin 8, cwF 62 l e r = nI a := by decide +kernel
  by_cases h1 : kd = 60
  · subst h1; exact (h l e r).1
  · by_cases h2 : kd = 62
    · subst h2; exact (h l e r).2.2
    · have e9 : cwF kd l e r = cwF 61 l e r := by rw [cwF, cwF, if_neg h1, if_neg h2, if_neg (show ¬ (61 : Int32) = 60 by decide), if_neg (show ¬ (61 : Int32) = 62 by decide)]
      rw [t8, e9]; exact (h l e r).2.1
theorem or_tt : ∀ a b : Fin 8, ∃ c : Fin 8, (nI a : Int32) ||| nI b = nI c := by decide +kernel


