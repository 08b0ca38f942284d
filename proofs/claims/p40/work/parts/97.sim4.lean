-- deps: 96.sim3 38.mo17 54.groups
/-! groups: the place of a key -/
theorem rk_ti {x : Int32} (h : vl x) : (rkI x).toInt = if x = 5000 then -5000 else x.toInt := by
  rw [rkI]
  split
  · decide
  · rfl
theorem mp_ti {x : Int32} : (mp x).toInt = if x = 5000 then -1000 else x.toInt := by
  rw [mp]
  split
  · decide
  · rfl
theorem mp_rk {x y : Int32} (hx : vl x) (hy : vl y) : mp x < mp y ↔ rkI x < rkI y := by
  rw [i32_lt, i32_lt, rk_ti hx, rk_ti hy, mp_ti, mp_ti]
  by_cases h1 : x = 5000 <;> by_cases h2 : y = 5000 <;> simp only [h1, h2, if_true, if_false]
  · omega
  · have := hy.resolve_left h2
    omega
  · have := hx.resolve_left h1
    omega
theorem rk_i {x y : Int32} (hx : vl x) (hy : vl y) : rkI x = rkI y ↔ x = y := by
  refine ⟨fun h => ?_, fun h => by rw [h]⟩
  have h := congrArg Int32.toInt h
  rw [rk_ti hx, rk_ti hy] at h
  by_cases h1 : x = 5000 <;> by_cases h2 : y = 5000 <;> simp only [h1, h2, if_true, if_false] at h
  · rw [h1, h2]
  · have := hy.resolve_left h2
    omega
  · have := hx.resolve_left h1
    omega
  · exact i32_eq.mpr h
theorem i32_nlt {x y : Int32} : ¬ x < y ↔ y ≤ x := Int32.not_lt
theorem atF_ltn {v : Nat → Int32} {x : Int32} {g : Nat} (h : ¬ rkI (v g) < rkI x) : ∀ n, g < n → atF v x n < n
  | 0, h => by omega
  | n + 1, hg => by
    rw [atF]
    by_cases e : g = n
    · subst e
      rw [if_neg h]
      have := atF_le (v := v) (x := x) g
      omega
    · have := atF_ltn h n (by omega)
      split <;> omega
theorem atF_mono {v : Nat → Int32} {x y : Int32} (h : rkI x ≤ rkI y) : ∀ n, atF v x n ≤ atF v y n
  | 0 => Nat.le_refl _
  | n + 1 => by
    rw [atF, atF]
    have := atF_mono (v := v) h n
    by_cases h1 : rkI (v n) < rkI x
    · rw [if_pos h1, if_pos (by rw [i32_lt, i32_le] at *; omega)]
      omega
    · rw [if_neg h1]
      split <;> omega
theorem atF_str {v : Nat → Int32} {x y : Int32} {g : Nat} (h1 : rkI x ≤ rkI (v g)) (h2 : rkI (v g) < rkI y) : ∀ n, g < n → atF v x n < atF v y n
  | 0, h => by omega
  | n + 1, hg => by
    rw [atF, atF]
    by_cases e : g = n
    · subst e
      rw [if_neg (by rw [i32_nlt]; exact h1), if_pos h2]
      have := atF_mono (v := v) (x := x) (y := y) (by rw [i32_le, i32_lt] at *; omega) g
      omega
    · have := atF_str h1 h2 n (by omega)
      by_cases h3 : rkI (v n) < rkI x
      · rw [if_pos h3, if_pos (by rw [i32_lt, i32_le] at *; omega)]
        omega
      · rw [if_neg h3]
        split <;> omega
theorem atF_cg {v w : Nat → Int32} {x : Int32} : ∀ n, (∀ h, h < n → w h = v h) → atF w x n = atF v x n
  | 0, _ => rfl
  | n + 1, h => by rw [atF, atF, atF_cg n (fun k hk => h k (by omega)), h n (by omega)]
theorem atF_new {v : Nat → Int32} {x k : Int32} {n : Nat} : atF (upd v n k) x (n + 1) = if rkI k < rkI x then atF v x n + 1 else atF v x n := by
  rw [atF, upd_s, atF_cg n fun h hh => upd_n _ _ (by omega)]
theorem gpl_eq {v : Nat → Int32} {k : Int32} {c n : Nat} (hc : c ≤ n) (h1 : ∀ j, j < c → v (6 * j) < k) (h2 : c < n → ¬ v (6 * c) < k) : ∀ d i, i + d = n → i ≤ c → gpl v k d i = c := by
  intro d
  induction d with
  | zero => intro i e hi; rw [gpl]; omega
  | succ d ih =>
    intro i e hi
    rw [gpl]
    by_cases hic : i = c
    · rw [if_neg (hic ▸ h2 (by omega)), hic]
    · rw [if_pos (h1 i (by omega)), ih (i + 1) (by omega) (by omega)]
/-! the keys K stand in c in rising order -/
def KyS (K c : Nat → Int32) (n : Nat) : Prop := (∀ g, g < n → vl (K g)) ∧ (∀ g h, g < n → h < n → K g = K h → g = h) ∧ (∀ i, i < n → ∃ g, g < n ∧ atF K (K g) n = i) ∧ ∀ g, g < n → c (6 * atF K (K g) n) = mp (K g)
theorem KyS.low {K c : Nat → Int32} {n : Nat} (h : KyS K c n) {k : Int32} (hk : vl k) : ∀ j, j < atF K k n → c (6 * j) < mp k := by
  obtain ⟨h1, h2, h3, h4⟩ := h
  intro j hj
  obtain ⟨g, hg, e⟩ := h3 j (by have := atF_le (v := K) (x := k) n; omega)
  rw [← e, h4 g hg, mp_rk (h1 g hg) hk]
  refine Classical.byContradiction fun h9 => ?_
  have := atF_mono (v := K) (i32_nlt.mp h9) n
  omega
theorem KyS.high {K c : Nat → Int32} {n : Nat} (h : KyS K c n) {k : Int32} (hk : vl k) (hn : atF K k n < n) : ¬ c (6 * atF K k n) < mp k := by
  obtain ⟨h1, h2, h3, h4⟩ := h
  obtain ⟨g, hg, e⟩ := h3 _ hn
  rw [← e, h4 g hg, mp_rk (h1 g hg) hk]
  intro h9
  have := atF_str (v := K) (x := K g) (y := k) (g := g) (Int32.le_refl _) h9 n hg
  omega
theorem KyS.gpl {K c : Nat → Int32} {n : Nat} (h : KyS K c n) {k : Int32} (hk : vl k) : gpl c (mp k) n 0 = atF K k n :=
  gpl_eq (atF_le _ _ n) (h.low hk) (h.high hk) n 0 (by omega) (by omega)
theorem KyS.has {K c : Nat → Int32} {n : Nat} (h : KyS K c n) {k : Int32} (hk : vl k) : (atF K k n < n ∧ c (6 * atF K k n) = mp k) ↔ ∃ g, g < n ∧ K g = k := by
  obtain ⟨h1, h2, h3, h4⟩ := h
  constructor
  · rintro ⟨a, b⟩
    obtain ⟨g, hg, e⟩ := h3 _ a
    rw [← e, h4 g hg, mp_inj (h1 g hg) hk] at b
    exact ⟨g, hg, b⟩
  · rintro ⟨g, hg, e⟩
    rw [← e]
    exact ⟨atF_ltn (g := g) (fun h => Int32.lt_irrefl h) n hg, h4 g hg⟩
theorem gix_ge {v : Nat → Int32} {k : Int32} : ∀ d i, (∀ j, i ≤ j → j < i + d → ¬ v j = k) → gix v k d i = i + d := by
  intro d
  induction d with
  | zero => intro i _; rfl
  | succ d ih =>
    intro i h
    rw [gix, if_neg (h i (by omega) (by omega)), ih (i + 1) fun j h1 h2 => h j (by omega) (by omega)]
    omega
theorem gix_eq {v : Nat → Int32} {k : Int32} {g : Nat} (hg : v g = k) : ∀ d i, i ≤ g → g < i + d → (∀ j, i ≤ j → j < g → ¬ v j = k) → gix v k d i = g := by
  intro d
  induction d with
  | zero => intro i h1 h2; omega
  | succ d ih =>
    intro i h1 h2 h
    rw [gix]
    by_cases e : i = g
    · rw [e, if_pos hg]
    · rw [if_neg (h i (by omega) (by omega)), ih (i + 1) (by omega) (by omega) fun j h1 h2 => h j (by omega) h2]
/-! one record of six cells -/
def gA (m : Int32) (c : Nat → Int32) (w : Nat) : Int32 :=
  if w = 1 then c 1 + 1 else if m = -1000 then c w else
  if w = 2 then c 2 + 1 else if w = 3 then c 3 + m else if w = 4 then imin (c 4) m else if w = 5 then imax (c 5) m else c w
def gNew (k : Int32) (w : Nat) : Int32 := if w = 0 then k else if w = 4 then 999 else if w = 5 then -999 else 0
theorem grA_o {W : CV} {o i : Nat} {m : Int32} {q : Nat} (h : q ≠ o + 1) : grA W o i m q = W q := by
  rw [grA]
  split <;> simp only [c2_n _ _ _ h]
theorem grA_c {W : CV} {o i : Nat} {m : Int32} {j w : Nat} (hw : w < 6) : grA W o i m (o + 1) (6 * j + w) = if j = i then gA m (fun w => W (o + 1) (6 * i + w)) w else W (o + 1) (6 * j + w) := by
  by_cases hj : j = i
  · subst hj
    rw [if_pos rfl, grA, gA]
    by_cases hm : m = -1000
    · rw [if_pos hm, if_pos hm]
      by_cases h1 : w = 1
      · rw [if_pos h1, h1, c2_s, upd_s]
      · rw [if_neg h1, c2_s, upd_n _ _ (by omega)]
    · rw [if_neg hm, if_neg hm]
      rcases (show w = 0 ∨ w = 1 ∨ w = 2 ∨ w = 3 ∨ w = 4 ∨ w = 5 by omega) with rfl | rfl | rfl | rfl | rfl | rfl <;> simp [c2, upd]
  · rw [if_neg hj, grA]
    split
    · rw [c2_s, upd_n _ _ (by omega)]
    · simp only [c2_s]
      rw [upd_n _ _ (by omega), upd_n _ _ (by omega), upd_n _ _ (by omega), upd_n _ _ (by omega), upd_n _ _ (by omega)]


