-- deps: 9g.simc 38.mo17 68.gp5 78.gpf
/-! counts -/
theorem cntN_cg {p q : Nat → Bool} : ∀ n, (∀ i, i < n → p i = q i) → cntN p n = cntN q n
  | 0, _ => rfl
  | n + 1, h => by rw [cntN, cntN, cntN_cg n fun i hi => h i (by omega), h n (by omega)]
theorem cntN_add {p : Nat → Bool} {a : Nat} : ∀ b, cntN p (a + b) = cntN p a + cntN (fun q => p (a + q)) b
  | 0 => rfl
  | b + 1 => by
    rw [← Nat.add_assoc, cntN, cntN, cntN_add b]
    omega
theorem cntN_0 {p : Nat → Bool} : ∀ n, (∀ i, i < n → p i = false) → cntN p n = 0
  | 0, _ => rfl
  | n + 1, h => by rw [cntN, cntN_0 n fun i hi => h i (by omega), h n (by omega)]; rfl
theorem cntN_or {p q : Nat → Bool} : ∀ n, (∀ i, i < n → p i = true → q i = false) → cntN (fun r => p r || q r) n = cntN p n + cntN q n
  | 0, _ => rfl
  | n + 1, h => by
    have h1 := h n (by omega)
    rw [cntN, cntN, cntN, cntN_or n fun i hi => h i (by omega)]
    cases hp : p n
    · cases q n <;> simp <;> omega
    · rw [h1 hp]; simp; omega
theorem cntN_sub {p q : Nat → Bool} : ∀ n, (∀ i, i < n → p i = true → q i = true) → cntN p n ≤ cntN q n
  | 0, _ => Nat.le_refl _
  | n + 1, h => by
    have h1 := h n (by omega)
    have := cntN_sub n fun i hi => h i (by omega)
    rw [cntN, cntN]
    cases hp : p n
    · simp; omega
    · rw [h1 hp]; simp; omega
theorem cnt_blk {a : Nat → Bool} {P i n : Nat} (h : 16 * P + i ≤ n) : cntN (fun r => (decide (16 * P ≤ r) && decide (r < 16 * P + i)) && a r) n = cntN (fun q => a (16 * P + q)) i := by
  obtain ⟨d, rfl⟩ : ∃ d, n = 16 * P + (i + d) := ⟨n - (16 * P + i), by omega⟩
  rw [cntN_add, cntN_add, cntN_0 (16 * P) fun r hr => by rw [decide_eq_false (show ¬ 16 * P ≤ r by omega)]; rfl]
  rw [cntN_0 d fun r hr => by rw [decide_eq_false (show ¬ 16 * P + (i + r) < 16 * P + i by omega)]; simp]
  rw [Nat.zero_add, Nat.add_zero]
  refine cntN_cg i fun r hr => ?_
  rw [decide_eq_true (show 16 * P ≤ 16 * P + r by omega), decide_eq_true (show 16 * P + r < 16 * P + i by omega)]
  simp
/-- rows that a scan has gone past -/
def pas (x : Nat) (a : Nat → Bool) (n : Nat) : Nat := cntN (fun r => x.testBit (r / 16) && a r) n
theorem pas_room {x P i n : Nat} {a : Nat → Bool} (hx : x.testBit P = false) (hi : i ≤ 16) (h : 16 * P + i ≤ n) : pas x a n + cntN (fun q => a (16 * P + q)) i ≤ cntN a n := by
  rw [pas, ← cnt_blk h, ← cntN_or]
  · refine cntN_sub n fun r hr => ?_
    cases a r
    · simp
    · exact fun _ => rfl
  · intro r hr h1
    rw [Bool.and_eq_true] at h1
    by_cases h9 : 16 * P ≤ r ∧ r < 16 * P + i
    · have : r / 16 = P := by omega
      rw [this, hx] at h1
      exact Bool.noConfusion h1.1
    · have : (decide (16 * P ≤ r) && decide (r < 16 * P + i)) = false := by
        rw [Bool.and_eq_false_iff, decide_eq_false_iff_not, decide_eq_false_iff_not]; omega
      rw [this]; rfl
theorem pas_or {x P n : Nat} {a : Nat → Bool} (hx : x.testBit P = false) {m : Nat} (hm : m = min 16 (n - 16 * P)) (hP : 16 * P < n) : pas (x ||| 2 ^ P) a n = pas x a n + cntN (fun q => a (16 * P + q)) m := by
  rw [pas, pas, ← cnt_blk (n := n) (by omega), ← cntN_or]
  · refine cntN_cg n fun r hr => ?_
    rw [tb_or]
    by_cases h9 : P = r / 16
    · rw [decide_eq_true h9, decide_eq_true (show 16 * P ≤ r by omega), decide_eq_true (show r < 16 * P + m by omega)]
      cases a r <;> simp
    · have : (decide (16 * P ≤ r) && decide (r < 16 * P + m)) = false := by
        rw [Bool.and_eq_false_iff, decide_eq_false_iff_not, decide_eq_false_iff_not]; omega
      rw [decide_eq_false h9, this]
      simp
  · intro r hr h1
    rw [Bool.and_eq_true] at h1
    by_cases h9 : 16 * P ≤ r ∧ r < 16 * P + m
    · have : r / 16 = P := by omega
      rw [this, hx] at h1
      exact Bool.noConfusion h1.1
    · have : (decide (16 * P ≤ r) && decide (r < 16 * P + m)) = false := by
        rw [Bool.and_eq_false_iff, decide_eq_false_iff_not, decide_eq_false_iff_not]; omega
      rw [this]; rfl
theorem tb_le {x o : Nat} (h : x < 2 ^ o) {k : Nat} (hk : o ≤ k) : x.testBit k = false := Nat.testBit_lt_two_pow (Nat.lt_of_lt_of_le h (Nat.pow_le_pow_right (by omega) hk))
theorem pc_le {x o : Nat} (h : x < 2 ^ o) (ho : o ≤ 10) : pc10 x ≤ o := by
  have e : pc10 x = cntN (fun k => x.testBit k) o := by
    obtain ⟨d, hd⟩ : ∃ d, 10 = o + d := ⟨10 - o, by omega⟩
    rw [pc10, hd, cntN_add, cntN_0 d fun i hi => tb_le h (by omega)]
    rfl
  rw [e]
  exact cntN_le _ o
/-- nothing is left to look at -/
theorem pc_all {x o : Nat} (h : x < 2 ^ o) (ho : o ≤ 10) (e : pc10 x = o) {k : Nat} (hk : k < o) : x.testBit k = true := by
  refine Classical.byContradiction fun h9 => ?_
  have h9 : x.testBit k = false := by simpa using h9
  have := pc_or (x := x) (k := k) (by omega) h9
  have h2 := pc_le (x := x ||| 2 ^ k) (o := o) (Nat.or_lt_two_pow h (Nat.pow_lt_pow_right (by omega) hk)) ho
  omega


