-- deps: 94.sim1 51.rows
/-! times and rows -/
theorem nI_ti {n : Nat} (h : n < 2147483648) : (nI n).toInt = n := Int32.toInt_ofNat_of_lt h
theorem nI_i {a b : Nat} (h : nI a = nI b) (ha : a < 2147483648) (hb : b < 2147483648) : a = b := by
  have := congrArg Int32.toInt h
  rw [nI_ti ha, nI_ti hb] at this
  omega
theorem nI_leq {a b : Nat} (ha : a < 2147483648) (hb : b < 2147483648) : nI a ≤ nI b ↔ a ≤ b := by
  rw [i32_le, nI_ti ha, nI_ti hb]; omega
theorem nI_ltq {a b : Nat} (ha : a < 2147483648) (hb : b < 2147483648) : nI a < nI b ↔ a < b := by
  rw [i32_lt, nI_ti ha, nI_ti hb]; omega
theorem nI_eqq {a b : Nat} (ha : a < 2147483648) (hb : b < 2147483648) : nI a = nI b ↔ a = b := ⟨fun h => nI_i h ha hb, fun h => by rw [h]⟩
def TmL (cm : CM) (R M G : Nat) : Prop := ∀ k, k < G → (∃ a, a ≤ M ∧ cm 13 0 k = nI a) ∧ vl (cm 12 0 k) ∧ ∃ r, r < R ∧ cm 10 0 k = nI r
def TmA (cm : CM) (R M : Nat) : Prop := ∀ r, r < R → (∃ a, a ≤ M ∧ cm 8 0 r = nI a) ∧ (∃ a, a ≤ M ∧ cm 9 0 r = nI a) ∧ ∀ c, c < 4 → vl (cm 6 0 (4 * r + c))
def TmR (cm : CM) (R M G : Nat) : Prop := R ≤ 160 ∧ M ≤ 1000 ∧ G ≤ M ∧ cm 0 0 0 = nI R ∧ cm 1 0 0 = nI M ∧ cm 2 0 0 = nI G ∧ TmL cm R M G ∧ TmA cm R M
theorem lkup_vl {cm : CM} {R M r c : Nat} {t : Int32} (hA : TmA cm R M) (hr : r < R) (hc : c < 4) : ∀ G, TmL cm R M G → vl (lkup cm r c t G) := by
  intro G
  induction G with
  | zero => intro _; exact (hA r hr).2.2 c hc
  | succ G ih =>
    intro h
    rw [lkup]
    split
    · exact (h G (by omega)).2.1
    · exact ih fun k hk => h k (by omega)
theorem lk_vl {cm : CM} {R M G r c : Nat} (h : TmR cm R M G) (t : Int32) (hr : r < R) (hc : c < 4) : vl (lk cm r c t) := by
  obtain ⟨h1, h2, h3, h4, h5, h6, h7, h8⟩ := h
  rw [lk, h6, nn_nI (by omega)]
  exact lkup_vl h8 hr hc G h7
theorem lkup_cg {cm cm' : CM} {r c : Nat} {t t' : Int32} (h6 : cm' 6 0 (4 * r + c) = cm 6 0 (4 * r + c)) : ∀ n, (∀ k, k < n → cm' 10 0 k = cm 10 0 k ∧ cm' 11 0 k = cm 11 0 k ∧ cm' 12 0 k = cm 12 0 k ∧ (cm' 13 0 k ≤ t' ↔ cm 13 0 k ≤ t)) → lkup cm' r c t' n = lkup cm r c t n := by
  intro n
  induction n with
  | zero => intro _; exact h6
  | succ n ih =>
    intro h
    obtain ⟨a, b, e, d⟩ := h n (by omega)
    rw [lkup, lkup, ih fun k hk => h k (by omega), a, b, e]
    simp only [d]
/-- a later moment finds the same, as long as nothing is written -/
theorem lk_M {cm : CM} {R M G r c : Nat} (h : TmR cm R M G) {m m' : Nat} (h1 : M ≤ m) (h2 : M ≤ m') (hm : m < 2147483648) (hm' : m' < 2147483648) : lk cm r c (nI m') = lk cm r c (nI m) := by
  obtain ⟨g1, g2, g3, g4, g5, g6, g7, g8⟩ := h
  rw [lk, lk, g6, nn_nI (by omega)]
  refine lkup_cg rfl G fun k hk => ⟨rfl, rfl, rfl, ?_⟩
  obtain ⟨⟨a, ha, e⟩, -⟩ := g7 k hk
  rw [e, nI_leq (by omega) (by omega), nI_leq (by omega) (by omega)]
  omega
theorem wrC_10 {cm : CM} {r c : Nat} {v : Int32} {G M : Nat} (hG : cm 2 0 0 = nI G) (hM : cm 1 0 0 = nI M) (hG2 : G < 2147483648) : wrC cm r c v 10 0 = upd (cm 10 0) G (nI r) ∧ wrC cm r c v 11 0 = upd (cm 11 0) G (nI c) ∧ wrC cm r c v 12 0 = upd (cm 12 0) G v ∧ wrC cm r c v 13 0 = upd (cm 13 0) G (nI (M + 1)) ∧ wrC cm r c v 2 0 0 = nI (G + 1) ∧ wrC cm r c v 1 0 0 = nI (M + 1) ∧ ∀ k, k ≠ 1 → k ≠ 2 → k ≠ 10 → k ≠ 11 → k ≠ 12 → k ≠ 13 → wrC cm r c v k = cm k := by
  have e1 : (1 : Int32) = nI 1 := rfl
  refine ⟨?_, ?_, ?_, ?_, ?_, ?_, fun k h1 h2 h3 h4 h5 h6 => ?_⟩ <;> rw [wrC, hG, nn_nI hG2]
  · rw [c3_n (by decide), c3_n (by decide), c3_n (by decide), c3_n (by decide), c3_s, c3_n (by decide)]
  · rw [c3_n (by decide), c3_n (by decide), c3_n (by decide), c3_s, c3_n (by decide), c3_n (by decide)]
  · rw [c3_n (by decide), c3_n (by decide), c3_s, c3_n (by decide), c3_n (by decide), c3_n (by decide)]
  · rw [c3_n (by decide), c3_s, c3_n (by decide), c3_n (by decide), c3_n (by decide), c3_n (by decide), hM, e1, nI_add]
  · rw [c3_s, upd_s, e1, nI_add]
  · rw [c3_n (by decide), c3_n (by decide), c3_n (by decide), c3_n (by decide), c3_n (by decide), c3_s, upd_s, hM, e1, nI_add]
  · rw [c3_n h2, c3_n h6, c3_n h5, c3_n h4, c3_n h3, c3_n h1]
theorem wr_TmR {cm : CM} {R M G r c : Nat} {v : Int32} (h : TmR cm R M G) (hr : r < R) (hv : vl v) (hM : M < 1000) : TmR (wrC cm r c v) R (M + 1) (G + 1) := by
  obtain ⟨g1, g2, g3, g4, g5, g6, g7, g8⟩ := h
  obtain ⟨w10, w11, w12, w13, w2, w1, wk⟩ := wrC_10 (r := r) (c := c) (v := v) g6 g5 (by omega)
  refine ⟨g1, by omega, by omega, by rw [wk 0 (by decide) (by decide) (by decide) (by decide) (by decide) (by decide)]; exact g4, w1, w2, fun k hk => ?_, fun q hq => ?_⟩
  · rw [w10, w12, w13]
    by_cases hkG : k = G
    · subst hkG
      rw [upd_s, upd_s, upd_s]
      exact ⟨⟨M + 1, by omega, rfl⟩, hv, r, hr, rfl⟩
    · rw [upd_n _ _ hkG, upd_n _ _ hkG, upd_n _ _ hkG]
      obtain ⟨⟨a, ha, e⟩, b, d⟩ := g7 k (by omega)
      exact ⟨⟨a, by omega, e⟩, b, d⟩
  · rw [wk 8 (by decide) (by decide) (by decide) (by decide) (by decide) (by decide), wk 9 (by decide) (by decide) (by decide) (by decide) (by decide) (by decide), wk 6 (by decide) (by decide) (by decide) (by decide) (by decide) (by decide)]
    obtain ⟨⟨a, ha, ea⟩, ⟨b, hb, eb⟩, d⟩ := g8 q hq
    exact ⟨⟨a, by omega, ea⟩, ⟨b, by omega, eb⟩, d⟩
theorem wr_lk {cm : CM} {R M G r c : Nat} {v : Int32} (h : TmR cm R M G) (hr : r < R) (hc : c < 4) {q k m : Nat} (hq : q < R) (hk : k < 4) (hm : m ≤ 1001) : lk (wrC cm r c v) q k (nI m) = if q = r ∧ k = c ∧ M < m then v else lk cm q k (nI m) := by
  obtain ⟨g1, g2, g3, g4, g5, g6, g7, g8⟩ := h
  obtain ⟨w10, w11, w12, w13, w2, w1, wk⟩ := wrC_10 (r := r) (c := c) (v := v) g6 g5 (by omega)
  rw [lk, lk, w2, g6, nn_nI (by omega), nn_nI (by omega), lkup, w10, w11, w12, w13, upd_s, upd_s, upd_s, upd_s]
  have ec : lkup (wrC cm r c v) q k (nI m) G = lkup cm q k (nI m) G := by
    refine lkup_cg (by rw [wk 6 (by decide) (by decide) (by decide) (by decide) (by decide) (by decide)]) G fun x hx => ?_
    rw [w10, w11, w12, w13, upd_n _ _ (by omega), upd_n _ _ (by omega), upd_n _ _ (by omega), upd_n _ _ (by omega)]
    exact ⟨rfl, rfl, rfl, Iff.rfl⟩
  rw [ec]
  have e : (nI r = nI q ∧ nI c = nI k ∧ nI (M + 1) ≤ nI m) ↔ (q = r ∧ k = c ∧ M < m) := by
    rw [nI_eqq (by omega) (by omega), nI_eqq (by omega) (by omega), nI_leq (by omega) (by omega)]
    omega
  by_cases h9 : q = r ∧ k = c ∧ M < m
  · rw [if_pos h9, if_pos (e.mpr h9)]
  · rw [if_neg h9, if_neg (fun h => h9 (e.mp h))]
/-! rows of the class, as they were at one moment -/
def RwS (cm : CM) (sh : Sh) (V : CV) (o n : Nat) (t : Int32) : Prop :=
  V o 2 = nI n ∧ n ≤ sh.N (o + 2) ∧ sh.N (o + 1) = 4 * sh.N (o + 2) ∧ sh.N (o + 2) ≤ 160 ∧
  (∀ r c, r < n → c < 4 → V (o + 1) (4 * r + c) = mp (lk cm r c t)) ∧
  (∀ r, r < n → V (o + 2) r = b2i (aliveM cm r t)) ∧ ∀ r, n ≤ r → r < sh.N (o + 2) → V (o + 2) r = 0
theorem RwS.ok {cm : CM} {sh : Sh} {V : CV} {o n : Nat} {t : Int32} (h : RwS cm sh V o n t) : RwOk sh V o := ⟨⟨n, h.2.1, h.1⟩, h.2.2.1, h.2.2.2.1⟩
theorem RwS.val {cm : CM} {sh : Sh} {V : CV} {o n : Nat} {t : Int32} (h : RwS cm sh V o n t) {r c : Nat} (hr : r < n) (hc : c < 4) : rVal V o r c = mp (lk cm r c t) := by
  obtain ⟨h1, h2, h3, h4, h5, -⟩ := h
  rw [rVal, h1, nn_nI (by omega), if_pos hr, h5 r c hr hc]
theorem RwS.al {cm : CM} {sh : Sh} {V : CV} {o n : Nat} {t : Int32} (h : RwS cm sh V o n t) (r : Nat) : rAl sh V o r = (decide (r < n) && aliveM cm r t) := by
  obtain ⟨h1, h2, h3, h4, -, h6, h7⟩ := h
  rw [rAl]
  by_cases hr : r < n
  · rw [h6 r hr, decide_eq_true hr, decide_eq_true (show r < sh.N (o + 2) by omega)]
    cases aliveM cm r t <;> rfl
  · rw [decide_eq_false hr]
    by_cases h9 : r < sh.N (o + 2)
    · rw [h7 r (by omega) h9]; simp
    · rw [decide_eq_false h9]; rfl
theorem alive_M {cm : CM} {R M G r : Nat} (h : TmR cm R M G) (hr : r < R) : aliveM cm r (nI M) = decide (cm 9 0 r = 0) := by
  obtain ⟨g1, g2, g3, g4, g5, g6, g7, g8⟩ := h
  obtain ⟨⟨a, ha, ea⟩, ⟨b, hb, eb⟩, -⟩ := g8 r hr
  rw [aliveM, ea, eb, decide_eq_true ((nI_leq (by omega) (by omega)).mpr ha), decide_eq_true ((nI_leq (by omega) (by omega)).mpr hb)]
  simp
theorem vl_mp {x : Int32} (h : vl x) : (mp x = -1000 ↔ x = 5000) ∧ (¬ x = 5000 → mp x = x) ∧ v5 (mp x) := by
  have t1 : (-1000 : Int32).toInt = -1000 := by decide
  have t2 : (5000 : Int32).toInt = 5000 := by decide
  rw [mp]
  by_cases h5 : x = 5000
  · rw [if_pos h5]
    exact ⟨⟨fun _ => h5, fun _ => rfl⟩, fun h => absurd h5 h, by rw [v5, t1]; omega⟩
  · rw [if_neg h5]
    rcases h with h | h
    · exact absurd h h5
    · refine ⟨⟨fun e => ?_, fun e => absurd e h5⟩, fun _ => rfl, by rw [v5]; omega⟩
      rw [i32_eq, t1] at e
      omega
theorem mp_inj {x y : Int32} (hx : vl x) (hy : vl y) : mp x = mp y ↔ x = y := by
  refine ⟨fun h => ?_, fun h => by rw [h]⟩
  by_cases h5 : x = 5000
  · have := (vl_mp hx).1.mpr h5
    rw [h] at this
    rw [h5, (vl_mp hy).1.mp this]
  · by_cases h6 : y = 5000
    · have := (vl_mp hy).1.mpr h6
      rw [← h] at this
      exact absurd ((vl_mp hx).1.mp this) h5
    · rwa [(vl_mp hx).2.1 h5, (vl_mp hy).2.1 h6] at h
/-! a filter for a row of the class -/
theorem RwS.fc {cm : CM} {sh : Sh} {V : CV} {q n R M G : Nat} {t : Int32} (hT : TmR cm R M G) (hF : FR cm sh V) (h : RwS cm sh V q n t) (hn : n ≤ R) (hq : q = 1 ∨ 400 ≤ q) {r j : Nat} (hr : r < n) (hj : j < sh.F) : fcW V j q r 9 j = trF cm r t 30 j :=
  fcF hF hq (fun _ hc => lk_vl hT t (by omega) hc) (fun _ hc => h.val hr hc) hj
theorem fcW_nq {V : CV} {j q r i : Nat} (h1 : i ≠ 9) (h2 : i ≠ 11) (h3 : i ≠ 12) (h4 : i ≠ 13) : fcW V j q r i = V i := by
  rw [fcW, ouT_n h1, fcT_n h2 h3 h4]


