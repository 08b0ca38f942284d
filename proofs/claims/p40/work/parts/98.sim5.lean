-- deps: 97.sim4
/-! groups: one more row -/
def KrS (K : Nat → Int32) (c : Nat → Int32) (rs : Nat → Nat → Int32) (n : Nat) : Prop :=
  (∀ g, g < n → vl (K g)) ∧ (∀ g h, g < n → h < n → K g = K h → g = h) ∧ (∀ i, i < n → ∃ g, g < n ∧ atF K (K g) n = i) ∧
  (∀ g, g < n → rs g 0 = mp (K g)) ∧ ∀ g, g < n → ∀ w, w < 6 → c (6 * atF K (K g) n + w) = rs g w
theorem KrS.ky {K c : Nat → Int32} {rs : Nat → Nat → Int32} {n : Nat} (h : KrS K c rs n) : KyS K c n :=
  ⟨h.1, h.2.1, h.2.2.1, fun g hg => by rw [← h.2.2.2.1 g hg]; exact h.2.2.2.2 g hg 0 (by omega)⟩
theorem rk_ne {K : Nat → Int32} {n g h : Nat} {x : Int32} (hx : vl x) (hK : vl (K g)) (hn : ¬ K g = x) : rkI (K g) < rkI x ∨ rkI x < rkI (K g) := by
  have : ¬ rkI (K g) = rkI x := fun e => hn ((rk_i hK hx).mp e)
  rw [i32_eq] at this
  rw [i32_lt, i32_lt]
  omega
theorem KrS.inj {K c : Nat → Int32} {rs : Nat → Nat → Int32} {n : Nat} (H : KrS K c rs n) {g h : Nat} (hg : g < n) (hh : h < n) (hne : h ≠ g) : atF K (K h) n ≠ atF K (K g) n := by
  obtain ⟨h1, h2, -⟩ := H
  have hk : ¬ K h = K g := fun e => hne (h2 h g hh hg e)
  rcases rk_ne (h := 0) (n := 0) (h1 g hg) (h1 h hh) hk with h9 | h9
  · have := atF_str (v := K) (x := K h) (y := K g) (g := h) (Int32.le_refl _) h9 n hh
    omega
  · have := atF_str (v := K) (x := K g) (y := K h) (g := g) (Int32.le_refl _) h9 n hg
    omega
theorem KrS.one {K c c' : Nat → Int32} {rs rs' : Nat → Nat → Int32} {n g : Nat} {m : Int32} (H : KrS K c rs n) (hg : g < n)
    (hc : ∀ j w, w < 6 → j < n → c' (6 * j + w) = if j = atF K (K g) n then gA m (fun w => c (6 * atF K (K g) n + w)) w else c (6 * j + w))
    (hr : ∀ w, w < 6 → rs' g w = gA m (rs g) w) (hr2 : ∀ h, h < n → h ≠ g → ∀ w, w < 6 → rs' h w = rs h w) : KrS K c' rs' n := by
  have hi := fun h hh hne => H.inj (h := h) hg hh hne
  obtain ⟨h1, h2, h3, h4, h5⟩ := H
  have hlt : ∀ h, h < n → atF K (K h) n < n := fun h hh => atF_ltn (g := h) (fun e => Int32.lt_irrefl e) n hh
  have g6 : ∀ w, w < 6 → gA m (fun w => c (6 * atF K (K g) n + w)) w = gA m (rs g) w := by
    intro w hw
    rw [gA, gA]
    simp only [h5 g hg 1 (by omega), h5 g hg 2 (by omega), h5 g hg 3 (by omega), h5 g hg 4 (by omega), h5 g hg 5 (by omega), h5 g hg w hw]
  refine ⟨h1, h2, h3, fun h hh => ?_, fun h hh w hw => ?_⟩
  · by_cases e : h = g
    · subst e
      rw [hr 0 (by omega), gA, if_neg (by decide), ← h4 h hh]
      split
      · rfl
      · rw [if_neg (by decide), if_neg (by decide), if_neg (by decide), if_neg (by decide)]
    · rw [hr2 h hh e 0 (by omega), h4 h hh]
  · rw [hc _ w hw (hlt h hh)]
    by_cases e : h = g
    · subst e
      rw [if_pos rfl, g6 w hw, hr w hw]
    · rw [if_neg (hi h hh e), h5 h hh w hw, hr2 h hh e w hw]
theorem gA_0 {m : Int32} {c : Nat → Int32} : gA m c 0 = c 0 := by
  rw [gA, if_neg (by decide), if_neg (show ¬ 0 = 2 by decide), if_neg (show ¬ 0 = 3 by decide), if_neg (show ¬ 0 = 4 by decide), if_neg (show ¬ 0 = 5 by decide)]
  split <;> rfl
theorem KrS.ins {K c c' : Nat → Int32} {rs rs' : Nat → Nat → Int32} {n : Nat} {m k : Int32} (H : KrS K c rs n) (hk : vl k) (hno : ∀ g, g < n → ¬ K g = k)
    (hc : ∀ j w, w < 6 → j ≤ n → c' (6 * j + w) = if j = atF K k n then gA m (gNew (mp k)) w else if j < atF K k n then c (6 * j + w) else c (6 * (j - 1) + w))
    (hr : ∀ w, w < 6 → rs' n w = gA m (gNew (mp k)) w) (hr2 : ∀ h, h < n → ∀ w, w < 6 → rs' h w = rs h w) : KrS (upd K n k) c' rs' (n + 1) := by
  obtain ⟨h1, h2, h3, h4, h5⟩ := H
  have u := fun h (hh : h < n) => upd_n K k (show h ≠ n by omega)
  have hlt : ∀ h, h < n → atF K (K h) n < n := fun h hh => atF_ltn (g := h) (fun e => Int32.lt_irrefl e) n hh
  have hle := atF_le K k n
  have lo : ∀ h, h < n → ¬ rkI k < rkI (K h) → atF K (K h) n < atF K k n := by
    intro h hh h9
    rcases rk_ne (h := 0) (n := 0) hk (h1 h hh) (hno h hh) with q | q
    · exact atF_str (v := K) (x := K h) (y := k) (g := h) (Int32.le_refl _) q n hh
    · exact absurd q h9
  have hi : ∀ h, rkI k < rkI (K h) → atF K k n ≤ atF K (K h) n := fun h h9 => atF_mono (by rw [i32_lt] at h9; rw [i32_le]; omega) n
  have rk : ∀ h, h < n → atF (upd K n k) (upd K n k h) (n + 1) = if rkI k < rkI (K h) then atF K (K h) n + 1 else atF K (K h) n := by
    intro h hh
    rw [u h hh, atF_new]
  have rkn : atF (upd K n k) (upd K n k n) (n + 1) = atF K k n := by
    rw [upd_s, atF_new, if_neg (fun h => Int32.lt_irrefl h)]
  refine ⟨fun g hg => ?_, fun g h hg hh e => ?_, fun i hin => ?_, fun g hg => ?_, fun g hg w hw => ?_⟩
  · by_cases e : g = n
    · rw [e, upd_s]; exact hk
    · rw [u g (by omega)]; exact h1 g (by omega)
  · by_cases eg : g = n <;> by_cases eh : h = n
    · omega
    · rw [eg, upd_s, u h (by omega)] at e
      exact absurd e.symm (hno h (by omega))
    · rw [eh, upd_s, u g (by omega)] at e
      exact absurd e (hno g (by omega))
    · rw [u g (by omega), u h (by omega)] at e
      exact h2 g h (by omega) (by omega) e
  · by_cases e : i = atF K k n
    · exact ⟨n, by omega, by rw [rkn, e]⟩
    · by_cases e2 : i < atF K k n
      · obtain ⟨g, hg, eg⟩ := h3 i (by omega)
        refine ⟨g, by omega, ?_⟩
        rw [rk g hg, if_neg (fun q => by have := hi g q; omega), eg]
      · obtain ⟨g, hg, eg⟩ := h3 (i - 1) (by omega)
        refine ⟨g, by omega, ?_⟩
        by_cases q : rkI k < rkI (K g)
        · rw [rk g hg, if_pos q, eg]; omega
        · have := lo g hg q
          omega
  · by_cases e : g = n
    · subst e
      rw [hr 0 (by omega), upd_s, gA_0]
      rfl
    · rw [hr2 g (by omega) 0 (by omega), u g (by omega), h4 g (by omega)]
  · by_cases e : g = n
    · subst e
      rw [rkn, hc _ w hw hle, if_pos rfl, hr w hw]
    · have hg : g < n := by omega
      rw [rk g hg, hr2 g hg w hw, ← h5 g hg w hw]
      by_cases q : rkI k < rkI (K g)
      · have := hi g q
        rw [if_pos q, hc _ w hw (by have := hlt g hg; omega), if_neg (by omega), if_neg (by omega)]
        rfl
      · have := lo g hg q
        rw [if_neg q, hc _ w hw (by omega), if_neg (by omega), if_pos this]
/-! what the class's methods do to the cells -/
theorem grI_o {V : CV} {o i q : Nat} {k : Int32} (h1 : q ≠ o + 1) (h2 : q ≠ o) : grI V o i k q = V q := by
  simp only [grI, c2_n _ _ _ h1, c2_n _ _ _ h2, cR, if_neg h1]
theorem grI_s {V : CV} {o i : Nat} {k : Int32} : grI V o i k o = upd (V o) 1 (V o 1 + 1) := by
  rw [grI, c2_s]
  congr 1
  simp only [c2_n _ _ _ (show o ≠ o + 1 by omega), cR, if_neg (show ¬ o = o + 1 by omega)]
theorem grI_c {V : CV} {o i n : Nat} {k : Int32} (hn : V o 1 = nI n) (hn2 : n ≤ 1000) (hi : i ≤ n) {j w : Nat} (hw : w < 6) (hj : j ≤ n) : grI V o i k (o + 1) (6 * j + w) = if j = i then gNew k w else if j < i then V (o + 1) (6 * j + w) else V (o + 1) (6 * (j - 1) + w) := by
  rw [grI, c2_n _ _ _ (show o + 1 ≠ o by omega)]
  simp only [c2_s]
  by_cases e : j = i
  · subst e
    rw [if_pos rfl, gNew]
    rcases (show w = 0 ∨ w = 1 ∨ w = 2 ∨ w = 3 ∨ w = 4 ∨ w = 5 by omega) with rfl | rfl | rfl | rfl | rfl | rfl <;> simp [upd]
  · rw [if_neg e, upd_n _ _ (by omega), upd_n _ _ (by omega), upd_n _ _ (by omega), upd_n _ _ (by omega), upd_n _ _ (by omega), upd_n _ _ (by omega), cR, if_pos rfl, hn, nn_nI (by omega), va_cpy]
    by_cases e2 : j < i
    · rw [if_pos e2, if_neg (by omega)]
    · rw [if_neg e2, if_pos (by omega)]
      congr 1
      omega


