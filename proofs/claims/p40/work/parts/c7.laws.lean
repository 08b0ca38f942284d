-- deps: c6.lawn
/-! ===== what each deed does to a net ===== -/
/-- what stays of rows as they were, filters, and what scans were opened with -/
def Keep (cm cm' : CM) (R M : Nat) : Prop := TmE cm cm' R M ∧ ∀ k, k = 0 ∨ k = 3 ∨ k = 4 ∨ (19 ≤ k ∧ k ≤ 25) ∨ k = 27 ∨ k = 28 → cm' k = cm k
theorem Keep.of {cm cm' : CM} {R M : Nat} (h : ∀ k, k = 0 ∨ (2 ≤ k ∧ k ≤ 4) ∨ k = 6 ∨ (8 ≤ k ∧ k ≤ 13) ∨ (19 ≤ k ∧ k ≤ 25) ∨ k = 27 ∨ k = 28 → cm' k = cm k) : Keep cm cm' R M := ⟨TmE.of fun k hk => h k (by omega), fun k hk => h k (by omega)⟩
theorem Keep.trans {a b c : CM} {R M : Nat} (h : Keep a b R M) (h2 : Keep b c R M) : Keep a c R M := ⟨h.1.trans h2.1, fun k hk => (h2.2 k hk).trans (h.2 k hk)⟩
theorem NetN.ck {cm cm' : CM} {R M : Nat} {F : Nat → Int32} (H : NetN cm R M F) (h : ∀ k, k ≠ 49 → cm' k = cm k) : NetN cm' R M F := ⟨H.1.ck (fun k hk => h k (by omega)) fun k j h1 h2 _ => by rw [h k (by omega)], H.2⟩
theorem alive_ge {cm : CM} {R M G r m : Nat} (h : TmR cm R M G) (hr : r < R) (hm : M ≤ m) (hm2 : m < 2147483648) : aliveM cm r (nI m) = decide (cm 9 0 r = 0) := by
  obtain ⟨-, -, -, -, -, -, -, hA⟩ := h
  obtain ⟨⟨a, ha, ea⟩, ⟨b, hb, eb⟩, -⟩ := hA r hr
  rw [aliveM, ea, eb, decide_eq_true ((nI_leq (by omega) hm2).mpr (by omega)), decide_eq_true ((nI_leq (a := b) (b := m) (by omega) hm2).mpr (by omega))]
  simp
theorem NetN.gone {cm : CM} {R M G r : Nat} {F : Nat → Int32} (hT : TmR cm R M G) (h : NetN cm R M F) (hr : r < R) : (F (800 + r) = 0 ∧ cm 9 0 r = 0) ∨ (F (800 + r) = 1 ∧ ¬ cm 9 0 r = 0 ∧ 0 < cm 9 0 r) := by
  have h1 := h.1.2.2.1 r hr
  rw [alive_M hT hr] at h1
  by_cases e : cm 9 0 r = 0
  · rw [if_pos (decide_eq_true e)] at h1; exact .inl ⟨h1, e⟩
  · rw [if_neg (by rw [decide_eq_false e]; decide)] at h1
    obtain ⟨-, ⟨b, hb, eb⟩, -⟩ := hT.2.2.2.2.2.2.2 r hr
    have hM := hT.2.1
    refine .inr ⟨h1, e, ?_⟩
    rw [eb, show (0 : Int32) = nI 0 from rfl, nI_ltq (by omega) (by omega)]
    rw [eb, show (0 : Int32) = nI 0 from rfl, nI_eqq (by omega) (by omega)] at e
    omega
theorem setC_N {cm : CM} {R M G r c : Nat} {v : Int32} {F : Nat → Int32} (hT : TmR cm R M G) (h : NetN cm R M F) (hM : M < 1000) (hr : r < R) (hc : c < 4) : NetN (setC cm r c v) R (M + 1) (upd (upd F 1 (nI (M + 1))) (100 + 4 * r + c) v) ∧ Keep cm (setC cm r c v) R M := by
  obtain ⟨hR, hM1, hG, h0, h1, h2, hTL, hTA⟩ := id hT
  obtain ⟨s1, -⟩ := @setC_e cm r c v
  obtain ⟨-, -, -, -, -, -, wn⟩ := wrC_10 (r := r) (c := c) (v := v) h2 h1 (by omega)
  have eq : ∀ k, k ≠ 1 → k ≠ 2 → (k < 10 ∨ 18 < k) → k ≠ 50 → setC cm r c v k = cm k := fun k a b d e => by rw [s1 k (by omega) (by omega) (by omega) (by omega) (by omega) e, wn k a b (by omega) (by omega) (by omega) (by omega)]
  have hlk : ∀ q k m, q < R → k < 4 → m ≤ 1001 → lk (setC cm r c v) q k (nI m) = if q = r ∧ k = c ∧ M < m then v else lk cm q k (nI m) := by
    intro q k m hq hk hm
    rw [← wr_lk (v := v) hT hr hc hq hk hm]
    exact lk_ck (fun k hk => s1 k (by omega) (by omega) (by omega) (by omega) (by omega) (by omega)) q k _
  have hal : ∀ q t, aliveM (setC cm r c v) q t = aliveM cm q t := fun q t => by rw [aliveM, aliveM, eq 8 (by omega) (by omega) (by omega) (by omega), eq 9 (by omega) (by omega) (by omega) (by omega)]
  refine ⟨⟨⟨?_, fun q k hq hk => ?_, fun q hq => ?_, fun j hj => ?_⟩, ?_, ?_, fun q h1 h2 => ?_⟩, fun q t hq ht => ⟨fun k hk => ?_, hal q _⟩, fun k hk => eq k (by omega) (by omega) (by omega) (by omega)⟩
  · rw [upd_n _ _ (by omega), upd_n _ _ (by omega)]; exact h.1.1
  · rw [hlk q k (M + 1) hq hk (by omega)]
    by_cases e : q = r ∧ k = c
    · obtain ⟨rfl, rfl⟩ := e
      rw [upd_s, if_pos ⟨rfl, rfl, by omega⟩]
    · rw [upd_n _ _ (by omega), upd_n _ _ (by omega), if_neg fun z => e ⟨z.1, z.2.1⟩, lk_M hT (Nat.le_refl M) (Nat.le_succ M) (by omega) (by omega)]
      exact h.1.2.1 q k hq hk
  · rw [upd_n _ _ (by omega), upd_n _ _ (by omega), hal, alive_ge hT hq (Nat.le_succ M) (by omega), ← alive_M hT hq]
    exact h.1.2.2.1 q hq
  · rw [upd_n _ _ (by omega), upd_n _ _ (by omega), upd_n _ _ (by omega), upd_n _ _ (by omega), upd_n _ _ (by omega), upd_n _ _ (by omega), eq 19 (by omega) (by omega) (by omega) (by omega), eq 20 (by omega) (by omega) (by omega) (by omega), eq 21 (by omega) (by omega) (by omega) (by omega)]
    exact h.1.2.2.2 j hj
  · rw [upd_n _ _ (by omega), upd_s]
  · rw [upd_n _ _ (by omega), upd_n _ _ (by omega)]; exact h.2.2.1
  · rw [upd_n _ _ (by omega), upd_n _ _ (by omega)]; exact h.2.2.2 q h1 h2
  · rw [hlk q k t hq hk (by omega), if_neg fun z => by omega]
theorem rmC_N {cm : CM} {R M G r : Nat} {F : Nat → Int32} (hT : TmR cm R M G) (h : NetN cm R M F) (hM : M < 1000) (hr : r < R) (h9 : cm 9 0 r = 0) : NetN (rmC cm r) R (M + 1) (upd (upd F 1 (nI (M + 1))) (800 + r) 1) ∧ Keep cm (rmC cm r) R M := by
  obtain ⟨hR, hM1, hG, h0, h1, h2, hTL, hTA⟩ := id hT
  obtain ⟨s1, -, s9, -⟩ := @rmC_e cm r
  rw [h1, show nI M + 1 = nI (M + 1) from nI_add M 1] at s9
  have hlk : ∀ q k t, lk (rmC cm r) q k t = lk cm q k t := fun q k t => lk_ck (fun k hk => s1 k (by omega) (by omega) (by omega) (by omega)) q k t
  have e8 : rmC cm r 8 = cm 8 := s1 8 (by omega) (by omega) (by omega) (by omega)
  have hale : ∀ q t, q < R → t ≤ M → aliveM (rmC cm r) q (nI t) = aliveM cm q (nI t) := by
    intro q t hq ht
    rw [aliveM, aliveM, e8, s9]
    by_cases e : q = r
    · subst e
      rw [upd_s, h9, decide_eq_true (show (0 : Int32) = 0 from rfl), decide_eq_false (show ¬ nI (M + 1) = 0 from nI_nz (by omega) (by omega)), decide_eq_false (show ¬ nI (M + 1) ≤ nI t from fun z => by rw [nI_leq (by omega) (by omega)] at z; omega)]
      rfl
    · rw [upd_n _ _ e]
  refine ⟨⟨⟨?_, fun q k hq hk => ?_, fun q hq => ?_, fun j hj => ?_⟩, ?_, ?_, fun q h1 h2 => ?_⟩, fun q t hq ht => ⟨fun k hk => hlk q k _, hale q t hq ht⟩, fun k hk => s1 k (by omega) (by omega) (by omega) (by omega)⟩
  · rw [upd_n _ _ (by omega), upd_n _ _ (by omega)]; exact h.1.1
  · rw [hlk, upd_n _ _ (by omega), upd_n _ _ (by omega), lk_M hT (Nat.le_refl M) (Nat.le_succ M) (by omega) (by omega)]
    exact h.1.2.1 q k hq hk
  · by_cases e : q = r
    · subst e
      obtain ⟨⟨a, ha, ea⟩, -⟩ := hTA q hq
      rw [upd_s, aliveM, e8, s9, upd_s, decide_eq_false (show ¬ nI (M + 1) = 0 from nI_nz (by omega) (by omega)), decide_eq_true (show nI (M + 1) ≤ nI (M + 1) from Int32.le_refl _), Bool.not_true, Bool.or_false, Bool.and_false, if_neg (by decide)]
    · have : aliveM (rmC cm r) q (nI (M + 1)) = aliveM cm q (nI (M + 1)) := by rw [aliveM, aliveM, e8, s9, upd_n _ _ e]
      rw [upd_n _ _ (by omega), upd_n _ _ (by omega), this, alive_ge hT hq (Nat.le_succ M) (by omega), ← alive_M hT hq]
      exact h.1.2.2.1 q hq
  · rw [upd_n _ _ (by omega), upd_n _ _ (by omega), upd_n _ _ (by omega), upd_n _ _ (by omega), upd_n _ _ (by omega), upd_n _ _ (by omega), s1 19 (by omega) (by omega) (by omega) (by omega), s1 20 (by omega) (by omega) (by omega) (by omega), s1 21 (by omega) (by omega) (by omega) (by omega)]
    exact h.1.2.2.2 j hj
  · rw [upd_n _ _ (by omega), upd_s]
  · rw [upd_n _ _ (by omega), upd_n _ _ (by omega)]; exact h.2.2.1
  · rw [upd_n _ _ (by omega), upd_n _ _ (by omega)]; exact h.2.2.2 q h1 h2
theorem noCell_x {cm : CM} {R r c : Nat} (h0 : cm 0 0 0 = nI R) (hR : R ≤ 160) (hr : r < R) (hc : c < 4) : noCell cm (nI r) (nI c) = false := by
  have e1 : inR (nI r) 0 (nI R - 1) = true := (inR_nI (by omega)).mpr ⟨r, hr, rfl⟩
  have e2 : inR (nI c) 0 3 = true := (inR_nI (m := 4) (by decide)).mpr ⟨c, hc, rfl⟩
  rw [noCell, h0, e1, e2]; rfl
/-- set, of a row that is there -/
theorem set_N {cm : CM} {R M G r c : Nat} {v : Int32} {F : Nat → Int32} (hT : TmR cm R M G) (h : NetN cm R M F) (hM : M < 1000) (hr : r < R) (hc : c < 4) (hv : inR v (-999) 999 = true) :
    (F (800 + r) = 1 → (setM cm (nI r) (nI c) v).2 49 0 0 = 3 ∧ ∀ k, k ≠ 49 → (setM cm (nI r) (nI c) v).2 k = cm k) ∧
    (F (800 + r) = 0 → (setM cm (nI r) (nI c) v).2 49 0 0 = 0 ∧ (setM cm (nI r) (nI c) v).1 = decide (F (100 + 4 * r + c) = 5000) ∧ NetN (setM cm (nI r) (nI c) v).2 R (M + 1) (upd (upd F 1 (nI (M + 1))) (100 + 4 * r + c) v) ∧ Keep cm (setM cm (nI r) (nI c) v).2 R M) := by
  have hR := hT.1
  have h1 := hT.2.2.2.2.1
  have q : ∀ k, k ≠ 49 → thr (thr (thr cm false 1) false 2) false 3 k = cm k := fun k hk => by rw [thr_nq hk, thr_nq hk, thr_nq hk]
  rw [setM, noCell_x hT.2.2.2.1 hR hr hc, if_neg (by decide), hv, if_neg (by decide), nn_nI (by omega), nn_nI (by omega)]
  refine ⟨fun e => ?_, fun e => ?_⟩
  · rcases h.gone hT hr with ⟨a, -⟩ | ⟨-, -, b⟩
    · rw [a] at e; exact absurd e (by decide)
    · rw [if_pos b]
      exact ⟨by dsimp only; exact thr_49t, fun k hk => by dsimp only; rw [thr_nq hk, thr_nq hk, thr_nq hk]⟩
  · rcases h.gone hT hr with ⟨-, b⟩ | ⟨a, -⟩
    · rw [if_neg (by rw [b]; decide)]
      dsimp only
      have hT' : TmR (thr (thr (thr cm false 1) false 2) false 3) R M G := hT.ck fun k hk => q k (by omega)
      obtain ⟨n1, n2⟩ := setC_N (v := v) hT' (h.ck q) hM hr hc
      refine ⟨?_, ?_, n1, (Keep.of fun k hk => q k (by omega)).trans n2⟩
      · rw [setC_e.1 49 (by decide) (by decide) (by decide) (by decide) (by decide) (by decide), wrC_n (by decide) (by decide) (by decide) (by decide) (by decide) (by decide)]
        exact thr_49f
      · rw [lk_ck (fun k hk => q k (by omega)), h1, h.1.2.1 r c hr hc]
    · rw [a] at e; exact absurd e (by decide)
theorem clr_N {cm : CM} {R M G r c : Nat} {F : Nat → Int32} (hT : TmR cm R M G) (h : NetN cm R M F) (hM : M < 1000) (hr : r < R) (hc : c < 4) :
    (F (800 + r) = 1 → (clrM cm (nI r) (nI c)).2 49 0 0 = 2 ∧ ∀ k, k ≠ 49 → (clrM cm (nI r) (nI c)).2 k = cm k) ∧
    (F (800 + r) = 0 → (clrM cm (nI r) (nI c)).2 49 0 0 = 0 ∧ (clrM cm (nI r) (nI c)).1 = decide (F (100 + 4 * r + c) = 5000) ∧ NetN (clrM cm (nI r) (nI c)).2 R (M + 1) (upd (upd F 1 (nI (M + 1))) (100 + 4 * r + c) 5000) ∧ Keep cm (clrM cm (nI r) (nI c)).2 R M) := by
  have hR := hT.1
  have h1 := hT.2.2.2.2.1
  have q : ∀ k, k ≠ 49 → thr (thr cm false 1) false 2 k = cm k := fun k hk => by rw [thr_nq hk, thr_nq hk]
  rw [clrM, noCell_x hT.2.2.2.1 hR hr hc, if_neg (by decide), nn_nI (by omega), nn_nI (by omega)]
  refine ⟨fun e => ?_, fun e => ?_⟩
  · rcases h.gone hT hr with ⟨a, -⟩ | ⟨-, -, b⟩
    · rw [a] at e; exact absurd e (by decide)
    · rw [if_pos b]
      exact ⟨by dsimp only; exact thr_49t, fun k hk => by dsimp only; rw [thr_nq hk, thr_nq hk]⟩
  · rcases h.gone hT hr with ⟨-, b⟩ | ⟨a, -⟩
    · rw [if_neg (by rw [b]; decide)]
      dsimp only
      have hT' : TmR (thr (thr cm false 1) false 2) R M G := hT.ck fun k hk => q k (by omega)
      obtain ⟨n1, n2⟩ := setC_N (v := 5000) hT' (h.ck q) hM hr hc
      refine ⟨?_, ?_, n1, (Keep.of fun k hk => q k (by omega)).trans n2⟩
      · rw [setC_e.1 49 (by decide) (by decide) (by decide) (by decide) (by decide) (by decide), wrC_n (by decide) (by decide) (by decide) (by decide) (by decide) (by decide)]
        exact thr_49f
      · rw [lk_ck (fun k hk => q k (by omega)), h1, h.1.2.1 r c hr hc]
    · rw [a] at e; exact absurd e (by decide)
/-- rows alive, as the law counts them -/
def alN (F : Nat → Int32) (k : Nat) : Int32 := 1 - F (800 + k)
theorem rm_N {cm : CM} {R M G r : Nat} {F : Nat → Int32} (hT : TmR cm R M G) (h : NetN cm R M F) (hM : M < 1000) (hr : r < R) :
    (F (800 + r) = 1 → (rmM cm (nI r)).2 49 0 0 = 2 ∧ ∀ k, k ≠ 49 → (rmM cm (nI r)).2 k = cm k) ∧
    (F (800 + r) = 0 → (rmM cm (nI r)).2 49 0 0 = 0 ∧ (rmM cm (nI r)).1 = sumI (alN (upd (upd F 1 (nI (M + 1))) (800 + r) 1)) R ∧ NetN (rmM cm (nI r)).2 R (M + 1) (upd (upd F 1 (nI (M + 1))) (800 + r) 1) ∧ Keep cm (rmM cm (nI r)).2 R M) := by
  have hR := hT.1
  have h0 := hT.2.2.2.1
  have q : ∀ k, k ≠ 49 → thr (thr cm false 1) false 2 k = cm k := fun k hk => by rw [thr_nq hk, thr_nq hk]
  have e1 : inR (nI r) 0 (nI R - 1) = true := (inR_nI (by omega)).mpr ⟨r, hr, rfl⟩
  rw [rmM, h0, e1, if_neg (by decide), nn_nI (by omega), nn_nI (by omega)]
  refine ⟨fun e => ?_, fun e => ?_⟩
  · rcases h.gone hT hr with ⟨a, -⟩ | ⟨-, -, b⟩
    · rw [a] at e; exact absurd e (by decide)
    · rw [if_pos b]
      exact ⟨by dsimp only; exact thr_49t, fun k hk => by dsimp only; rw [thr_nq hk, thr_nq hk]⟩
  · rcases h.gone hT hr with ⟨-, b⟩ | ⟨a, -⟩
    · rw [if_neg (by rw [b]; decide)]
      dsimp only
      have hT' : TmR (thr (thr cm false 1) false 2) R M G := hT.ck fun k hk => q k (by omega)
      obtain ⟨n1, n2⟩ := rmC_N hT' (h.ck q) hM hr (by rw [q 9 (by omega)]; exact b)
      refine ⟨?_, sumI_cg fun k hk => ?_, n1, (Keep.of fun k hk => q k (by omega)).trans n2⟩
      · rw [rmC_e.1 49 (by decide) (by decide) (by decide) (by decide)]
        exact thr_49f
      · have hk' := n1.1.2.2.1 k hk
        rw [lvF, alN, hk', rmC_e.2.2.1]
        by_cases e2 : k = r
        · subst e2
          have hM2 := hT.2.1
          rw [upd_s, aliveM, rmC_e.2.2.1, upd_s, q 1 (by omega), hT.2.2.2.2.1, show nI M + 1 = nI (M + 1) from nI_add M 1, if_neg (nI_nz (by omega) (by omega)), decide_eq_false (nI_nz (n := M + 1) (by omega) (by omega)), decide_eq_true (show nI (M + 1) ≤ nI (M + 1) from Int32.le_refl _), Bool.not_true, Bool.or_false, Bool.and_false, if_neg (by decide)]
          decide
        · obtain ⟨⟨a, ha, ea⟩, ⟨b', hb, eb⟩, -⟩ := hT.2.2.2.2.2.2.2 k hk
          have hM2 := hT.2.1
          rw [upd_n _ _ e2, aliveM, rmC_e.1 8 (by decide) (by decide) (by decide) (by decide), rmC_e.2.2.1, upd_n _ _ e2, q 8 (by omega), q 9 (by omega), ea, eb, decide_eq_true ((nI_leq (a := a) (b := M + 1) (by omega) (by omega)).mpr (by omega)), decide_eq_true ((nI_leq (a := b') (b := M + 1) (by omega) (by omega)).mpr (by omega)), Bool.not_true, Bool.or_false, Bool.true_and]
          by_cases e3 : nI b' = 0
          · rw [if_pos e3, if_pos (decide_eq_true e3)]; decide
          · rw [if_neg e3, if_neg (by rw [decide_eq_false e3]; decide)]; decide
    · rw [a] at e; exact absurd e (by decide)
/-! rows loaded -/
def ldF (F : Nat → Int32) (R : Nat) (x y z : Int32) : Nat → Nat → Int32
  | 0 => F
  | i + 1 => upd (upd (upd (upd (upd (ldF F R x y z i) (100 + 4 * (R + i)) (rowX (flm (x + nI i * y) z) i 0)) (100 + 4 * (R + i) + 1) (rowX (flm (x + nI i * y) z) i 1)) (100 + 4 * (R + i) + 2) (rowX (flm (x + nI i * y) z) i 2)) (100 + 4 * (R + i) + 3) (rowX (flm (x + nI i * y) z) i 3)) 0 (nI (R + i + 1))
theorem ldF_n {F : Nat → Int32} {R : Nat} {x y z : Int32} {a : Nat} (h0 : a ≠ 0) (h : a < 100 + 4 * R ∨ 740 ≤ a) : ∀ i, R + i ≤ 160 → ldF F R x y z i a = F a
  | 0, _ => rfl
  | i + 1, hi => by
    rw [ldF, upd_n _ _ h0, upd_n _ _ (by omega), upd_n _ _ (by omega), upd_n _ _ (by omega), upd_n _ _ (by omega)]
    exact ldF_n h0 h i (by omega)
theorem ldC_T {cm : CM} {R M G : Nat} {x y z : Int32} {F : Nat → Int32} (h0 : cm 0 0 0 = nI R) (h1 : cm 1 0 0 = nI M) (hG : nn (cm 2 0 0) = G) (hM : M < 2147483648) (hl : ∀ k, k < G → ∃ r, r < R ∧ cm 10 0 k = nI r) (h : NetT cm R M F) (hz : ∀ r, R ≤ r → r < 160 → F (800 + r) = 0) : ∀ i, R + i ≤ 160 → NetT (ldC cm x y z i) (R + i) M (ldF F R x y z i) ∧ ldC cm x y z i 0 0 0 = nI (R + i) ∧ ldC cm x y z i 1 0 0 = nI M ∧ nn (ldC cm x y z i 2 0 0) = G ∧ ∀ k, k < G → ∃ r, r < R ∧ ldC cm x y z i 10 0 k = nI r
  | 0, _ => ⟨h, h0, h1, hG, hl⟩
  | i + 1, hi => by
    obtain ⟨i1, i2, i3, i4, i5⟩ := ldC_T (x := x) (y := y) (z := z) h0 h1 hG hM hl h hz i (by omega)
    have hF8 : ldF F R x y z i (800 + (R + i)) = 0 := by rw [ldF_n (by omega) (by omega) i (by omega)]; exact hz _ (by omega) (by omega)
    rw [ldC, ldF, i2, nn_nI (by omega)]
    obtain ⟨x0, x6, x6n, -, -, x8, x9, -, -, -, xn⟩ := ld_X (cm := ldC cm x y z i) (R := R + i) (M := M) (i := i) (a := x) (b := y) (d := z) i2 (by omega) i3
    generalize ldC cm x y z i = c at *
    generalize ldCol (ldRow c x y z i) (R + i) 4 = c' at *
    generalize ldF F R x y z i = F' at *
    have e2 : c' 2 = c 2 := xn 2 (by omega)
    have e10 : c' 10 = c 10 := xn 10 (by omega)
    refine ⟨⟨upd_s _ _ _, fun r k hr hk => ?_, fun r hr => ?_, fun j hj => ?_⟩, x0, by rw [xn 1 (by omega)]; exact i3, by rw [e2]; exact i4, by rw [e10]; exact i5⟩
    · rw [upd_n _ _ (by omega)]
      by_cases e : r = R + i
      · subst e
        have : lk c' (R + i) k (nI M) = rowX (flm (x + nI i * y) z) i k := by
          rw [lk, e2, lkup_base _ fun q hq => ?_, x6 k hk]
          obtain ⟨r, hr, er⟩ := i5 q (by rw [← i4]; exact hq)
          rw [e10, er]
          intro z
          have := nI_i z (by omega) (by omega)
          omega
        rw [this]
        rcases (show k = 0 ∨ k = 1 ∨ k = 2 ∨ k = 3 by omega) with rfl | rfl | rfl | rfl
        · rw [upd_n _ _ (by omega), upd_n _ _ (by omega), upd_n _ _ (by omega)]; exact upd_s _ _ _
        · rw [upd_n _ _ (by omega), upd_n _ _ (by omega)]; exact upd_s _ _ _
        · rw [upd_n _ _ (by omega)]; exact upd_s _ _ _
        · exact upd_s _ _ _
      · rw [upd_n _ _ (by omega), upd_n _ _ (by omega), upd_n _ _ (by omega), upd_n _ _ (by omega), i1.2.1 r k (by omega) hk, lk, lk, e2]
        exact (lkup_cg (x6n _ fun c hc => by omega) _ fun q _ => ⟨by rw [e10], by rw [xn 11 (by omega)], by rw [xn 12 (by omega)], by rw [xn 13 (by omega)]⟩).symm
    · rw [upd_n _ _ (by omega), upd_n _ _ (by omega), upd_n _ _ (by omega), upd_n _ _ (by omega), upd_n _ _ (by omega), aliveM, x8, x9]
      by_cases e : r = R + i
      · subst e
        rw [upd_s, upd_s, decide_eq_true (Int32.le_refl _), decide_eq_true (show (0 : Int32) = 0 from rfl), Bool.true_or, Bool.and_self, if_pos rfl]
        exact hF8
      · rw [upd_n _ _ e, upd_n _ _ e]
        exact i1.2.2.1 r (by omega)
    · rw [upd_n _ _ (by omega), upd_n _ _ (by omega), upd_n _ _ (by omega), upd_n _ _ (by omega), upd_n _ _ (by omega), upd_n _ _ (by omega), upd_n _ _ (by omega), upd_n _ _ (by omega), upd_n _ _ (by omega), upd_n _ _ (by omega), upd_n _ _ (by omega), upd_n _ _ (by omega), upd_n _ _ (by omega), upd_n _ _ (by omega), upd_n _ _ (by omega), xn 19 (by omega), xn 20 (by omega), xn 21 (by omega)]
      exact i1.2.2.2 j hj
/-- load, of rows for which there is room -/
theorem ld_N {cm : CM} {R M G : Nat} {F : Nat → Int32} (hT : TmR cm R M G) (h : NetN cm R M F) (hM : M < 1000) {m : Nat} {x y z : Int32} (hR : R + m ≤ 160) (hok : ldOk (nI m) x y z = true) : (ldM cm (nI m) x y z).2 49 0 0 = 0 ∧ (ldM cm (nI m) x y z).1 = nI (R + m) ∧ (ldM cm (nI m) x y z).2 0 0 0 = nI (R + m) ∧ NetN (ldM cm (nI m) x y z).2 (R + m) (M + 1) (upd (ldF F R x y z m) 1 (nI (M + 1))) := by
  have h0 := hT.2.2.2.1
  have h1 := hT.2.2.2.2.1
  have h2 := hT.2.2.2.2.2.1
  have hl := hT.2.2.2.2.2.2.1
  have hG := hT.2.2.1
  have q : ∀ k, k ≠ 49 → k ≠ 1 → c3 (thr (thr cm false 1) false 2) 1 0 0 (cm 1 0 0 + 1) k = cm k := fun k hk h1 => by rw [c3_n h1, thr_nq hk, thr_nq hk]
  rw [ldM, hok, if_neg (by decide), if_neg (by rw [h0, nI_add]; exact Int32.not_lt.mpr (nI_le (b := 160) hR (by omega))), nn_nI (by omega)]
  dsimp only
  have a1 : c3 (thr (thr cm false 1) false 2) 1 0 0 (cm 1 0 0 + 1) 1 0 0 = nI (M + 1) := by rw [c3_s, upd_s, h1]; exact nI_add M 1
  have hN : NetT (c3 (thr (thr cm false 1) false 2) 1 0 0 (cm 1 0 0 + 1)) R (M + 1) F := by
    obtain ⟨b1, b2, b3, b4⟩ := h.1
    refine ⟨b1, fun r c hr hc => ?_, fun r hr => ?_, fun j hj => ?_⟩
    · rw [b2 r c hr hc, lk_ck (fun k hk => q k (by omega) (by omega)), lk_M hT (Nat.le_refl M) (Nat.le_succ M) (by omega) (by omega)]
    · rw [b3 r hr, alive_M hT hr, ← alive_ge hT hr (Nat.le_succ M) (by omega), aliveM, aliveM, q 8 (by omega) (by omega), q 9 (by omega) (by omega)]
    · rw [q 19 (by omega) (by omega), q 20 (by omega) (by omega), q 21 (by omega) (by omega)]; exact b4 j hj
  obtain ⟨i1, i2, i3, i4, i5⟩ := ldC_T (x := x) (y := y) (z := z) (G := G) (M := M + 1) (by rw [q 0 (by omega) (by omega)]; exact h0) a1 (by rw [q 2 (by omega) (by omega), h2, nn_nI (by omega)]) (by omega) (fun k hk => by obtain ⟨-, -, r, hr, e⟩ := hl k hk; exact ⟨r, hr, by rw [q 10 (by omega) (by omega)]; exact e⟩) hN h.2.2.2 m hR
  have e49 : ldC (c3 (thr (thr cm false 1) false 2) 1 0 0 (cm 1 0 0 + 1)) x y z m 49 0 0 = 0 := by
    rw [ldC_n (by decide) (by decide) (by decide) (by decide) (by decide) (by decide) (by decide) (by decide) (by decide), c3_n (by decide)]
    exact thr_49f
  generalize ldC (c3 (thr (thr cm false 1) false 2) 1 0 0 (cm 1 0 0 + 1)) x y z m = c at *
  have eT : ∀ k, k ≠ 50 → tchC c (-1) k = c k := fun k hk => tchC_n hk
  have i1' := i1.ck (fun k hk => eT k (by omega)) fun k j a b _ => by rw [eT k (by omega)]
  obtain ⟨b1, b2, b3, b4⟩ := i1'
  refine ⟨by rw [eT 49 (by decide)]; exact e49, by rw [h0, nI_add], by rw [eT 0 (by decide)]; exact i2, ⟨⟨?_, fun r k hr hk => ?_, fun r hr => ?_, fun j hj => ?_⟩, upd_s _ _ _, ?_, fun r a b => ?_⟩⟩
  · rw [upd_n _ _ (by omega)]; exact b1
  · rw [upd_n _ _ (by omega)]; exact b2 r k hr hk
  · rw [upd_n _ _ (by omega)]; exact b3 r hr
  · rw [upd_n _ _ (by omega), upd_n _ _ (by omega), upd_n _ _ (by omega)]; exact b4 j hj
  · rw [upd_n _ _ (by omega), ldF_n (by omega) (by omega) m hR]; exact h.2.2.1
  · rw [upd_n _ _ (by omega), ldF_n (by omega) (by omega) m hR]; exact h.2.2.2 r (by omega) b
/-! a scan opened -/
theorem op_N {cm : CM} {cl : CL} {sh : Sh} {V : CV} {L : Int64} {M : Nat} (H : SR cm cl sh V L M) {j m w : Nat} {y : Int32} (hj : j < sh.F) (hy : y = -1 ∨ ∃ c, c < 4 ∧ y = nI c) (hm : m < 4) (hw : 1 ≤ w) (hw6 : w ≤ 6) (hS : sh.S < 3) (hC : 0 < sh.C) : (opM cm (nI j) y (nI m) (nI w)).2 49 0 0 = 0 ∧ (opM cm (nI j) y (nI m) (nI w)).1 = nI sh.S ∧ (∀ k, k = 0 ∨ k = 2 ∨ k = 3 ∨ k = 6 ∨ (8 ≤ k ∧ k ≤ 13) ∨ (19 ≤ k ∧ k ≤ 21) → (opM cm (nI j) y (nI m) (nI w)).2 k = cm k) ∧ (∀ k s, 23 ≤ k → k ≤ 28 → s ≠ sh.S → (opM cm (nI j) y (nI m) (nI w)).2 k 0 s = cm k 0 s) ∧ (opM cm (nI j) y (nI m) (nI w)).2 23 0 sh.S = nI j ∧ (opM cm (nI j) y (nI m) (nI w)).2 24 0 sh.S = y ∧ (opM cm (nI j) y (nI m) (nI w)).2 25 0 sh.S = nI m ∧ (opM cm (nI j) y (nI m) (nI w)).2 27 0 sh.S = cm 1 0 0 ∧ (opM cm (nI j) y (nI m) (nI w)).2 28 0 sh.S = chN cm ∧ (opM cm (nI j) y (nI m) (nI w)).2 33 0 sh.S = 0 := by
  obtain ⟨e1, -, -, -, eC, -⟩ := H.chk (nI j) 0
  obtain ⟨mo, eo, hmo, hcnt, e4⟩ := opn_cnt H
  obtain ⟨hF, hF3, hF30⟩ := H.fil
  obtain ⟨R, G, P, Dn, w', W, hRd, hP, hMo, hNw, hWt, hFh, -⟩ := H
  have hC10 : sh.C ≤ 10 := by have := hRd.2.2.2.2.2.1; have := hRd.1.1; omega
  obtain ⟨-, -, hfr⟩ := hFh
  obtain ⟨f50, f1, -⟩ := hfr sh.S (Nat.le_refl _) (by omega)
  have n1 : noFil cm (nI j) = false := by
    rw [e1, fsH, decide_eq_true (show (0 : Int32) ≤ nI j from nI_pos' (by omega)), decide_eq_true (show nI j < nI sh.F from nI_lt hj (by omega))]; rfl
  have n2 : opOk y (nI m) (nI w) = true := by
    have y1 : inR y (-1) 3 = true := by
      rcases hy with rfl | ⟨c, hc, rfl⟩
      · decide
      · rcases (show c = 0 ∨ c = 1 ∨ c = 2 ∨ c = 3 by omega) with rfl | rfl | rfl | rfl <;> decide
    have y2 : inR (nI m) 0 3 = true := (inR_nI (m := 4) (by decide)).mpr ⟨m, hm, rfl⟩
    have y3 : inR (nI w) 1 6 = true := by
      rcases (show w = 1 ∨ w = 2 ∨ w = 3 ∨ w = 4 ∨ w = 5 ∨ w = 6 by omega) with rfl | rfl | rfl | rfl | rfl | rfl <;> decide
    rw [opOk, y1, y2, y3]; rfl
  have n3 : ¬ opN cm = 4 := by
    rw [eo]
    intro z
    have := nI_i (b := 4) z (by omega) (by omega)
    omega
  have n4 : ¬ cm 4 0 0 = 40 := by
    rw [e4]
    intro z
    have := nI_i (b := 40) z (by omega) (by omega)
    omega
  have q : ∀ k, k ≠ 49 → thr (thr (thr cm false 1) false 2) false 3 k = cm k := fun k hk => by rw [thr_nq hk, thr_nq hk, thr_nq hk]
  rw [opM, n1, if_neg (by decide), n2, if_neg (by decide), if_neg n3, if_neg n4, e4, nn_nI (by omega)]
  dsimp only
  have e4' : thr (thr (thr cm false 1) false 2) false 3 4 0 0 = nI sh.S := by rw [q 4 (by omega)]; exact e4
  obtain ⟨a4, a23, a24, a25, a26, a27, a28, aj, ak⟩ := opA_e (x := nI j) (y := y) (z := nI m) (w := nI w) e4' (by omega)
  have c28 : chN (thr (thr (thr cm false 1) false 2) false 3) = chN cm := by rw [chN, chN, q 0 (by omega)]
  have e49 : thr (thr (thr cm false 1) false 2) false 3 49 0 0 = 0 := thr_49f
  generalize thr (thr (thr cm false 1) false 2) false 3 = c0 at *
  generalize opA c0 (nI j) y (nI m) (nI w) = c1 at *
  have hne : ¬ c1 29 0 sh.S = c1 28 0 sh.S := by
    rw [ak 29 (by omega) (by omega), q 29 (by omega), f1 29 (by omega) (by omega), a28, c28, eC]
    exact fun z => nI_nz (n := sh.C) hC (by omega) z.symm
  rw [enC, if_neg hne]
  refine ⟨by rw [ak 49 (by omega) (by omega)]; exact e49, rfl, fun k hk => by rw [ak k (by omega) (by omega), q k (by omega)], fun k s h1 h2 hs => by rw [aj k 0 s hs (by omega), q k (by omega)], a23, a24, a25, by rw [a27, q 1 (by omega)], by rw [a28, c28], by rw [ak 33 (by omega) (by omega), q 33 (by omega)]; exact f1 33 (by omega) (by omega)⟩
/-! reading -/
theorem rd_add (S : Nat) : ∀ m n x, rdO S (m + n) x = ((rdO S n ((rdO S m x).1, (rdO S m x).2.1)).1, (rdO S n ((rdO S m x).1, (rdO S m x).2.1)).2.1, (rdO S m x).2.2 + (rdO S n ((rdO S m x).1, (rdO S m x).2.1)).2.2)
  | 0, n, x => by rw [Nat.zero_add, rdO]; simp
  | m + 1, n, x => by
    rw [show m + 1 + n = (m + n) + 1 by omega, rdO, rdO]
    by_cases h : 0 < opN x.1
    · rw [if_pos h, if_pos h, rd_add S m n]
      dsimp only
      rw [show ∀ a b : Nat, a + b + 1 = a + 1 + b from fun a b => by omega]
    · rw [if_neg h, if_neg h]
      have : rdO S n (x.1, x.2) = (x.1, x.2, 0) := by
        cases n with
        | zero => rfl
        | succ n => rw [rdO, if_neg h]
      dsimp only
      rw [this]
      rfl
theorem rd_stop {S : Nat} {x : CM × CL} (h : ¬ 0 < opN x.1) : ∀ n, rdO S n x = (x.1, x.2, 0)
  | 0 => rfl
  | n + 1 => by rw [rdO, if_neg h]
/-- what of looks stays, and what comes, while each scan looks once -/
theorem in_bit {x : RX} : ∀ n, (∀ k, k = 0 ∨ k = 5 ∨ k = 28 → (rdI x n).1 k = x.1 k) ∧ (∀ s, n ≤ s → (rdI x n).1 33 0 s = x.1 33 0 s) ∧ (∀ j, ¬ x.1 37 0 j = 0 → ¬ (rdI x n).1 37 0 j = 0) ∧ ∀ s, s < n → x.1 33 0 s = 0 → x.1 5 0 0 < x.1 28 0 s → ¬ (rdI x n).1 37 0 (10 * s + nn (x.1 5 0 0)) = 0
  | 0 => ⟨fun _ _ => rfl, fun _ _ => rfl, fun _ h => h, fun s h => absurd h (Nat.not_lt_zero _)⟩
  | n + 1 => by
    obtain ⟨i1, i3, i5, i6⟩ := in_bit (x := x) n
    rw [rdI, rdS]
    generalize rdI x n = z at *
    cases hb : rdB z.1 n
    · rw [if_neg (by decide)]
      refine ⟨i1, fun s hs => i3 s (by omega), i5, fun s hs h33 hlt => ?_⟩
      rcases Nat.lt_succ_iff_lt_or_eq.mp hs with h | h
      · exact i6 s h h33 hlt
      · subst h
        intro e
        rw [rdB, i3 s (Nat.le_refl _), h33, i1 5 (by omega), i1 28 (by omega), decide_eq_true hlt, decide_eq_true e, decide_eq_true rfl] at hb
        exact Bool.noConfusion hb
    · rw [if_pos rfl]
      dsimp only
      have l37 : ∀ j, loC z.1 n 37 0 j = if j = 10 * n + nn (z.1 5 0 0) then 1 else z.1 37 0 j := by
        intro j
        have e : loC z.1 n 37 = loA z.1 n 37 := by
          rw [loC]
          split
          · exact loR_f (by decide) _
          · rw [c3_n (by decide)]
        rw [e, loA, c3_n (by decide), c3_s]; rfl
      have lq : ∀ k, k = 0 ∨ k = 5 ∨ k = 28 ∨ k = 33 → loC z.1 n k = z.1 k := by
        intro k hk
        rw [loC]
        split
        · rw [loR_f (by rcases hk with rfl | rfl | rfl | rfl <;> decide), loA, c3_n (by omega), c3_n (by omega)]
        · rw [c3_n (by omega), loA, c3_n (by omega), c3_n (by omega)]
      have e33 : ∀ s, s ≠ n → enC (loC z.1 n) n 33 0 s = z.1 33 0 s := by
        intro s hs
        rw [enC]
        split
        · rw [soC_nq (by decide), c3_o hs, c3_n (by decide), lq 33 (by omega)]
        · rw [lq 33 (by omega)]
      refine ⟨fun k hk => by rw [enC_q (by omega) (by omega) (by omega), lq k (by omega)]; exact i1 k hk, fun s hs => by rw [e33 s (by omega)]; exact i3 s (by omega), fun j h => ?_, fun s hs h33 hlt => ?_⟩
      · rw [enC_q (by decide) (by decide) (by decide), l37]
        split
        · decide
        · exact i5 j h
      · rw [enC_q (by decide) (by decide) (by decide), l37, i1 5 (by omega)]
        split
        · decide
        · next hne =>
          rcases Nat.lt_succ_iff_lt_or_eq.mp hs with h | h
          · exact i6 s h h33 hlt
          · subst h; exact absurd rfl hne
/-- what reading leaves as it is -/
theorem SR.rdk {cm : CM} {cl : CL} {sh : Sh} {V : CV} {L : Int64} {M : Nat} (H : SR cm cl sh V L M) (n : Nat) : (∀ k, m18 k = false → (rdO sh.S n (cm, cl)).1 k = cm k) ∧ (rdO sh.S n (cm, cl)).1 49 = cm 49 ∧ ∀ q, (rdO sh.S n (cm, cl)).1 33 0 q = 0 → cm 33 0 q = 0 := by
  obtain ⟨R, G, P, Dn, w, W, hRd, hP, hMo, hNw, hWt, hFh, hLn, hTc, hBs, hOp, hCl⟩ := H
  have hC10 : sh.C ≤ 10 := by have := hRd.2.2.2.2.2.1; have := hRd.1.1; omega
  obtain ⟨-, -, -, i4, -, i6⟩ := rd_x hC10 n cm cl V L P Dn hRd hP.1 hP.2.1 hLn hOp hCl
  refine ⟨i4.N, funext fun i => funext fun j => i4 49 i j (by omega) (by omega) fun s _ ho => ?_, i6⟩
  rw [own] at ho
  omega
theorem cnt_all {p : Nat → Bool} : ∀ n, (∀ i, i < n → p i = true) → cntN p n = n
  | 0, _ => rfl
  | n + 1, h => by rw [cntN, cnt_all n fun i hi => h i (by omega), h n (by omega), if_pos rfl]
/-- no scan goes on: all are finished -/
theorem SR.nop {cm : CM} {cl : CL} {sh : Sh} {V : CV} {L : Int64} {M : Nat} (H : SR cm cl sh V L M) : (¬ 0 < opN cm) ↔ ∀ s, s < sh.S → ¬ cm 33 0 s = 0 := by
  obtain ⟨m, eo, hm, hc, -⟩ := opn_cnt H
  have hz : 0 < opN cm ↔ 0 < m := by rw [eo, show (0 : Int32) = nI 0 from rfl, nI_ltq (by omega) (by omega)]
  rw [hz]
  constructor
  · intro h s hs
    have := cnt_full _ (show cntN (fun s => !decide (cm 33 0 s = 0)) sh.S = sh.S by omega) s hs
    simpa using this
  · intro h
    have := cnt_all (p := fun s => !decide (cm 33 0 s = 0)) sh.S fun s hs => by simp [h s hs]
    omega
theorem SR.rdf {cm : CM} {cl : CL} {sh : Sh} {V : CV} {L : Int64} {M : Nat} (H : SR cm cl sh V L M) (hC : 0 < sh.C) (h28 : ∀ s, s < sh.S → cm 28 0 s = nI sh.C) {n : Nat} (hn : 10 ≤ n) : (rdO sh.S n (cm, cl)).2.2 ≤ 10 ∧ ∀ s, s < sh.S → ¬ (rdO sh.S n (cm, cl)).1 33 0 s = 0 := by
  obtain ⟨-, -, -, -, eC, -⟩ := H.chk 0 0
  have hP : ∃ P, P < sh.C ∧ cm 5 0 0 = nI P ∧ sh.C ≤ 10 := by
    obtain ⟨R, G, P, Dn, w, W, hRd, hP, -⟩ := H
    have hC10 : sh.C ≤ 10 := by have := hRd.2.2.2.2.2.1; have := hRd.1.1; omega
    exact ⟨P, by have := hP.2.1; omega, hRd.2.2.2.2.2.2.2.2.1, hC10⟩
  obtain ⟨P, hPC, e5, hC10⟩ := hP
  have claim : ∀ j, j ≤ sh.C → (∀ s, s < sh.S → ¬ (rdO sh.S j (cm, cl)).1 33 0 s = 0) ∨ ((rdO sh.S j (cm, cl)).1 5 0 0 = nI (if P + j < sh.C then P + j else P + j - sh.C) ∧ ∀ s, s < sh.S → (rdO sh.S j (cm, cl)).1 33 0 s = 0 → ∀ q, q < sh.C → ((P ≤ q ∧ q < P + j) ∨ q + sh.C < P + j) → ¬ (rdO sh.S j (cm, cl)).1 37 0 (10 * s + q) = 0) := by
    intro j
    induction j with
    | zero =>
      intro _
      refine .inr ⟨?_, fun s _ _ q _ h => ?_⟩
      · rw [if_pos (by omega)]; exact e5
      · omega
    | succ j ih =>
      intro hj
      obtain ⟨hz, -⟩ := read_R H j
      obtain ⟨k1, -, -⟩ := H.rdk j
      have e1 := rd_add sh.S j 1 (cm, cl)
      rcases ih (by omega) with h | ⟨h5, hb⟩
      · left
        rw [e1, rd_stop (x := ((rdO sh.S j (cm, cl)).1, (rdO sh.S j (cm, cl)).2.1)) (hz.nop.mpr h)]
        exact h
      · generalize grO sh j (V, L) = u at hz
        generalize rdO sh.S j (cm, cl) = z at *
        by_cases hop : 0 < opN z.1
        · right
          obtain ⟨-, -, k3⟩ := hz.rdk 1
          rw [e1]
          dsimp only
          have e2 : (rdO sh.S 1 (z.1, z.2.1)).1 = rdE (rdI (z.1, z.2.1, false) sh.S).1 := by rw [rdO, if_pos hop]; rfl
          rw [e2] at k3 ⊢
          obtain ⟨b1, b3, b5, b6⟩ := in_bit (x := (z.1, z.2.1, false)) sh.S
          generalize rdI (z.1, z.2.1, false) sh.S = y at *
          dsimp only at b1 b3 b5 b6
          have n5 : ∀ k, k ≠ 5 → rdE y.1 k = y.1 k := fun k hk => by rw [rdE, c3_n hk]
          have hpj : (if P + j < sh.C then P + j else P + j - sh.C) < sh.C := by split <;> omega
          have ec : chN y.1 = nI sh.C := by
            rw [chN, b1 0 (by omega), k1 0 rfl]
            exact eC
          refine ⟨?_, fun s hs h33 q hq hA => ?_⟩
          · rw [rdE, c3_s, upd_s, ec, b1 5 (by omega), h5, nI_1]
            by_cases h : (if P + j < sh.C then P + j else P + j - sh.C) + 1 < sh.C
            · rw [if_pos ((nI_ltq (by omega) (by omega)).mpr h)]
              congr 1
              by_cases u1 : P + j < sh.C <;> by_cases u2 : P + (j + 1) < sh.C <;> simp only [u1, u2, if_true, if_false] at h ⊢ <;> omega
            · rw [if_neg (fun z => h ((nI_ltq (by omega) (by omega)).mp z)), show (0 : Int32) = nI 0 from rfl]
              congr 1
              by_cases u1 : P + j < sh.C <;> by_cases u2 : P + (j + 1) < sh.C <;> simp only [u1, u2, if_true, if_false] at h ⊢ <;> omega
          · have hz33 := k3 s h33
            rw [n5 37 (by decide)]
            by_cases hold : (P ≤ q ∧ q < P + j) ∨ q + sh.C < P + j
            · exact b5 _ (hb s hs hz33 q hq hold)
            · have hqp : q = (if P + j < sh.C then P + j else P + j - sh.C) := by split <;> omega
              have := b6 s hs hz33 (by rw [h5, k1 28 rfl, h28 s hs, nI_ltq (by omega) (by omega)]; exact hpj)
              rw [h5, nn_nI (by omega), ← hqp] at this
              exact this
        · left
          rw [e1, rd_stop (x := (z.1, z.2.1)) hop]
          exact hz.nop.mp hop
  obtain ⟨hz, -⟩ := read_R H sh.C
  obtain ⟨k1, -, -⟩ := H.rdk sh.C
  have hdone : ∀ s, s < sh.S → ¬ (rdO sh.S sh.C (cm, cl)).1 33 0 s = 0 := by
    rcases claim sh.C (Nat.le_refl _) with h | ⟨-, hb⟩
    · exact h
    · intro s hs h33
      have hb := hb s hs h33
      obtain ⟨R, G, P', Dn, w, W, hRd, -⟩ := hz
      obtain ⟨hT0, -, -, -, -, -, -, -, -, -, -, -, -, -, -, hSc⟩ := hRd
      obtain ⟨j, ns, ts, x, y, ⟨a1, a2, a3, a4, a5, a6, a7, a8, a9, b1, b2, hns, -⟩, -, hx2, ⟨⟨x1, x2, x3, x4, x5⟩, -⟩, -, h6⟩ := hSc s hs
      have hR160 := hT0.1
      have e28 : (ns + 15) / 16 = sh.C := by
        rw [k1 28 rfl, h28 s hs] at b2
        exact (nI_i b2 (by omega) (by omega)).symm
      rw [e28] at h6 hx2
      have hall : ∀ k, k < sh.C → x.testBit k = true := fun k hk => by
        have := hb k hk (by omega)
        rw [x3 k (by omega)] at this
        cases e : x.testBit k
        · rw [e] at this; exact absurd rfl this
        · rfl
      refine (h6.mp h33) ?_
      rw [pc10, show 10 = sh.C + (10 - sh.C) by omega, cntN_add, cntN_0 (10 - sh.C) fun i _ => Nat.testBit_lt_two_pow (Nat.lt_of_lt_of_le hx2 (Nat.pow_le_pow_right (by decide) (by omega))), cnt_all sh.C hall]
      omega
  have e1 := rd_add sh.S sh.C (n - sh.C) (cm, cl)
  rw [show sh.C + (n - sh.C) = n by omega, rd_stop (x := ((rdO sh.S sh.C (cm, cl)).1, (rdO sh.S sh.C (cm, cl)).2.1)) (hz.nop.mpr hdone)] at e1
  rw [e1]
  exact ⟨by dsimp only; have := rdO_le sh.S sh.C (cm, cl); omega, hdone⟩

