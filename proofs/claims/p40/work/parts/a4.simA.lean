-- deps: a3.simz 29.mo9 86.load
/-! a row laid into a chunk -/
theorem bAd_pt {V W : CV} {o c l : Nat} {v : Int32} (h : ∀ l, (l = 1 ∨ l = 2 ∨ l = 3) → W (o + l) c = V (o + l) c) (hl : l = 1 ∨ l = 2 ∨ l = 3) : bAd W o c v (o + l) c = bAd V o c v (o + l) c := by
  rw [bAd, bAd, h 1 (by omega), h 2 (by omega)]
  split
  · rcases hl with rfl | rfl | rfl
    · rw [c2_o (.inl (by omega)), c2_o (.inl (by omega)), h 1 (by omega)]
    · rw [c2_o (.inl (by omega)), c2_o (.inl (by omega)), h 2 (by omega)]
    · rw [c2_e, c2_e]
  · rcases hl with rfl | rfl | rfl
    · rw [c2_o (.inl (by omega)), c2_e, c2_o (.inl (by omega)), c2_e]
    · rw [c2_e, c2_e]
    · rw [c2_o (.inl (by omega)), c2_o (.inl (by omega)), c2_o (.inl (by omega)), c2_o (.inl (by omega)), h 3 (by omega)]
theorem tbT_b {sh : Sh} {V : CV} {o r p c l : Nat} (hl : l = 1 ∨ l = 2 ∨ l = 3) : ∀ m, tbT sh V o r p m (o + 2 + l) c = if c < m ∧ rAl sh V 1 r = true then bAd V (o + 2) c (tbV sh V r c) (o + 2 + l) c else V (o + 2 + l) c := by
  have main : ∀ m, ∀ l, (l = 1 ∨ l = 2 ∨ l = 3) → tbT sh V o r p m (o + 2 + l) c = if c < m ∧ rAl sh V 1 r = true then bAd V (o + 2) c (tbV sh V r c) (o + 2 + l) c else V (o + 2 + l) c := by
    intro m
    induction m with
    | zero => intro l _; rw [if_neg (by omega)]; rfl
    | succ m ih =>
      intro l hl
      rw [tbT, tbZ]
      cases hal : rAl sh V 1 r
      · rw [if_neg (by decide), c2_n _ _ _ (by omega), ih l hl, hal, if_neg (by simp), if_neg (by simp)]
      · rw [if_pos rfl]
        by_cases hc : c = m
        · subst hc
          rw [if_pos ⟨by omega, rfl⟩]
          exact bAd_pt (fun l hl => by rw [c2_n _ _ _ (by omega), ih l hl, if_neg (by omega)]) hl
        · rw [bAd_o (.inl hc), c2_n _ _ _ (by omega), ih l hl, hal]
          by_cases hcm : c < m
          · rw [if_pos ⟨hcm, rfl⟩, if_pos ⟨by omega, rfl⟩]
          · rw [if_neg (by omega), if_neg (by omega)]
  intro m
  exact main m l hl
theorem tbT_v {sh : Sh} {V : CV} {o r p i c : Nat} (hc : c < 4) : ∀ m, m ≤ 4 → tbT sh V o r p m (o + 1) (4 * i + c) = if i = p ∧ c < m then tbV sh V r c else V (o + 1) (4 * i + c) := by
  intro m
  induction m with
  | zero => intro _; rw [if_neg (by omega)]; rfl
  | succ m ih =>
    intro hm
    have ih := ih (by omega)
    have e : ∀ b : Bool, tbZ (tbT sh V o r p m) o p m (tbV sh V r m) b (o + 1) (4 * i + c) = c2 (tbT sh V o r p m) (o + 1) (4 * p + m) (tbV sh V r m) (o + 1) (4 * i + c) := by
      intro b
      rw [tbZ]
      split
      · rw [bAd_n (by omega) (by omega) (by omega)]
      · rfl
    rw [tbT, e]
    by_cases h : i = p ∧ c = m
    · obtain ⟨rfl, rfl⟩ := h
      rw [c2_e, if_pos ⟨rfl, by omega⟩]
    · rw [c2_o (.inr (by omega)), ih]
      by_cases h2 : i = p ∧ c < m
      · rw [if_pos h2, if_pos ⟨h2.1, by omega⟩]
      · rw [if_neg h2, if_neg (by omega)]
/-! a chunk is mended -/
theorem mdV_ck {cm cm' : CM} (h : ∀ k, k = 1 ∨ k = 2 ∨ k = 6 ∨ (9 ≤ k ∧ k ≤ 13) → cm' k = cm k) (r c : Nat) : mdV cm' r c = mdV cm r c := by
  have hl : ∀ t, lk cm' r c t = lk cm r c t := fun t => by
    rw [lk, lk, h 2 (by omega)]
    exact lkup_cg (by rw [h 6 (by omega)]) _ fun k _ => ⟨by rw [h 10 (by omega)], by rw [h 11 (by omega)], by rw [h 12 (by omega)], by rw [h 13 (by omega)]⟩
  rw [mdV, mdV, h 9 (by omega), h 1 (by omega), hl]
theorem mdCol_V {X : CM} {k col r c : Nat} (i : Nat) : mdV (mdCol X k col i) r c = mdV X r c := mdV_ck (fun k hk => mdCol_n (by omega) (by omega) (by omega) (by omega) (by omega) i) r c
theorem mdCol_7 {X : CM} {k col : Nat} : ∀ i, (∀ q, q < i → mdCol X k col i 7 0 (4 * (16 * k + q) + col) = mdV X (16 * k + q) col) ∧ ∀ a, (∀ q, q < i → a ≠ 4 * (16 * k + q) + col) → mdCol X k col i 7 0 a = X 7 0 a := by
  intro i
  induction i with
  | zero => exact ⟨fun q h => by omega, fun a _ => by rw [mdCol, c3_n (by decide), c3_n (by decide)]⟩
  | succ i ih =>
    obtain ⟨h1, h2⟩ := ih
    have e : ∀ a, mdCol X k col (i + 1) 7 0 a = upd (mdCol X k col i 7 0) (4 * (16 * k + i) + col) (mdV X (16 * k + i) col) a := by
      intro a
      rw [mdCol, mdR, mdCol_V]
      split
      · rw [wdC_n (by decide) (by decide) (by decide) (by decide), c3_s]
      · rw [c3_s]
    refine ⟨fun q hq => ?_, fun a ha => ?_⟩
    · rw [e]
      by_cases hqi : q = i
      · subst hqi; rw [upd_s]
      · rw [upd_n _ _ (by omega)]; exact h1 q (by omega)
    · rw [e, upd_n _ _ (ha i (by omega))]
      exact h2 a fun q hq => ha q (by omega)
theorem mdCol_o {X : CM} {k col l a : Nat} (hl : 14 ≤ l ∧ l ≤ 18) (ha : a ≠ 4 * k + col) : ∀ i, i ≤ 16 → mdCol X k col i l 0 a = X l 0 a
  | 0, _ => by rw [mdCol, c3_o ha, c3_o ha]
  | i + 1, h => by
    have ih := mdCol_o (X := X) hl ha i (by omega)
    rw [mdCol, mdR]
    split
    · rw [wdC_o (by omega), c3_n (by omega), ih]
    · rw [c3_n (by omega), ih]
theorem bFo_e {V : CV} {q : Nat} : ∀ m c, c < m → bFo V q m (q + 1) c = 1000 ∧ bFo V q m (q + 2) c = -1000 ∧ bFo V q m (q + 3) c = 0
  | 0, c, h => by omega
  | m + 1, c, h => by
    rw [bFo, bFc]
    by_cases hc : c = m
    · subst hc
      refine ⟨?_, ?_, ?_⟩
      · rw [c2_o (.inl (by omega)), c2_o (.inl (by omega)), c2_e]
      · rw [c2_o (.inl (by omega)), c2_e]
      · rw [c2_e]
    · rw [c2_o (.inr hc), c2_o (.inr hc), c2_o (.inr hc), c2_o (.inr hc), c2_o (.inr hc), c2_o (.inr hc), c2_o (.inr hc), c2_o (.inr hc), c2_o (.inr hc)]
      exact bFo_e m c (by omega)
/-- the bounds of a column, row by row on both sides -/
theorem md_bd {X : CM} {sh : Sh} {V1 : CV} {k c n : Nat} (hc : c < 4) (hn : n ≤ 16)
    (hx : ∀ i, i < n → vl (mdV X (16 * k + i) c) ∧ (rAl sh V1 1 (16 * k + i) = decide (X 9 0 (16 * k + i) = 0)) ∧ tbV sh V1 (16 * k + i) c = mp (mdV X (16 * k + i) c)) : ∀ i, i ≤ n →
    BdS1 (mdCol X k c i) (chR sh (bFo V1 (100 + 10 * k + 2) 4) (100 + 10 * k) (16 * k) i) (100 + 10 * k + 2) k c ∧ ∀ q, q < i → X 9 0 (16 * k + q) = 0 → BdI (mdCol X k c i) (4 * k + c) (mdV X (16 * k + q) c) := by
  intro i
  induction i with
  | zero =>
    intro _
    obtain ⟨b1, b2, b3⟩ := bFo_e (V := V1) (q := 100 + 10 * k + 2) 4 c hc
    refine ⟨?_, fun q h => by omega⟩
    have e17 : mdCol X k c 0 17 0 (4 * k + c) = 0 := by rw [mdCol, c3_n (by decide), c3_s, upd_s]
    have e18 : mdCol X k c 0 18 0 (4 * k + c) = 0 := by rw [mdCol, c3_s, upd_s]
    rw [BdS1, e17, e18, chR, b1, b2, b3]
    exact ⟨.inl rfl, .inl rfl, rfl, fun _ => ⟨rfl, rfl⟩, fun h => absurd rfl h⟩
  | succ i ih =>
    intro hi
    obtain ⟨i1, i2⟩ := ih (by omega)
    obtain ⟨x1, x2, x3⟩ := hx i (by omega)
    have hlow : ∀ j, j = 1 ∨ j = 2 ∨ j = 3 → chR sh (bFo V1 (100 + 10 * k + 2) 4) (100 + 10 * k) (16 * k) i j = V1 j := fun j hj => by rw [chR_n (by omega) (by omega) (by omega) (by omega), bFo_n (by omega) (by omega) (by omega)]
    have eal : rAl sh (chR sh (bFo V1 (100 + 10 * k + 2) 4) (100 + 10 * k) (16 * k) i) 1 (16 * k + i) = decide (X 9 0 (16 * k + i) = 0) := by rw [← x2]; exact rAl_cg (hlow 3 (by omega))
    have etb : tbV sh (chR sh (bFo V1 (100 + 10 * k + 2) 4) (100 + 10 * k) (16 * k) i) (16 * k + i) c = mp (mdV X (16 * k + i) c) := by
      rw [← x3, tbV, tbV, eal, x2, rVal_cg (hlow 1 (by omega)) (hlow 2 (by omega))]
    rw [chR]
    generalize chR sh (bFo V1 (100 + 10 * k + 2) 4) (100 + 10 * k) (16 * k) i = Vi at *
    have hr16 : (16 * k + i) / 16 = k := by omega
    have e9 : mdCol X k c i 9 = X 9 := mdCol_n (by decide) (by decide) (by decide) (by decide) (by decide) i
    have eV : mdV (mdCol X k c i) (16 * k + i) c = mdV X (16 * k + i) c := mdCol_V i
    rw [mdCol, mdR, e9, eV]
    by_cases h9 : X 9 0 (16 * k + i) = 0
    · rw [if_pos h9]
      have eal' : rAl sh Vi 1 (16 * k + i) = true := by rw [eal, h9]; rfl
      have i1' : BdS1 (c3 (mdCol X k c i) 7 0 (4 * (16 * k + i) + c) (mdV X (16 * k + i) c)) Vi (100 + 10 * k + 2) k c := i1.ck (fun l hl => by rw [c3_n (by omega)]) rfl rfl rfl
      constructor
      · have := bd_ad (r := 16 * k + i) (c := c) (by rw [hr16]; exact i1') x1
        rw [hr16] at this
        refine this.ck (fun l _ => rfl) ?_ ?_ ?_
        · rw [tbT_b (l := 1) (by omega), if_pos ⟨hc, eal'⟩, etb]
        · rw [tbT_b (l := 2) (by omega), if_pos ⟨hc, eal'⟩, etb]
        · rw [tbT_b (l := 3) (by omega), if_pos ⟨hc, eal'⟩, etb]
      · intro q hq hq9
        have en := @BdI.new (c3 (mdCol X k c i) 7 0 (4 * (16 * k + i) + c) (mdV X (16 * k + i) c)) (16 * k + i) c (mdV X (16 * k + i) c)
        rw [hr16] at en
        by_cases hqi : q = i
        · subst hqi; exact en
        · exact BdI.wd (BdI.ck (fun l hl => c3_n (by omega)) (i2 q (by omega) hq9))
    · rw [if_neg h9]
      have eal' : rAl sh Vi 1 (16 * k + i) = false := by rw [eal, decide_eq_false h9]
      refine ⟨i1.ck (fun l hl => by rw [c3_n (by omega)]) ?_ ?_ ?_, fun q hq hq9 => ?_⟩
      · rw [tbT_b (l := 1) (by omega), if_neg (by rw [eal']; simp)]
      · rw [tbT_b (l := 2) (by omega), if_neg (by rw [eal']; simp)]
      · rw [tbT_b (l := 3) (by omega), if_neg (by rw [eal']; simp)]
      · have hqi : q ≠ i := fun e => h9 (by rw [← e]; exact hq9)
        exact BdI.ck (fun l hl => c3_n (by omega)) (i2 q (by omega) hq9)
theorem chR_v {sh : Sh} {V1 : CV} {o st q c : Nat} (hc : c < 4) (ho : 100 ≤ o) : ∀ n, chR sh V1 o st n (o + 1) (4 * q + c) = if q < n then tbV sh V1 (st + q) c else V1 (o + 1) (4 * q + c) := by
  intro n
  induction n with
  | zero => rw [if_neg (by omega)]; rfl
  | succ n ih =>
    have hlow : ∀ j, j = 1 ∨ j = 2 ∨ j = 3 → chR sh V1 o st n j = V1 j := fun j hj => chR_n (by omega) (by omega) (by omega) (by omega) n
    rw [chR, tbT_v hc 4 (by omega), ih]
    by_cases h : q = n
    · subst h
      rw [if_pos ⟨rfl, hc⟩, if_pos (by omega), tbV, tbV, rAl_cg (hlow 3 (by omega)), rVal_cg (hlow 1 (by omega)) (hlow 2 (by omega))]
    · rw [if_neg (by omega)]
      by_cases h2 : q < n
      · rw [if_pos h2, if_pos (by omega)]
      · rw [if_neg h2, if_neg (by omega)]
theorem mdC_e {cm : CM} {k n : Nat} (hn : n ≤ 16) : ∀ m, m ≤ 4 → (∀ q c, q < n → c < m → mdC cm k n m 7 0 (4 * (16 * k + q) + c) = mdV cm (16 * k + q) c) ∧ (∀ a, (∀ q c, q < n → c < m → a ≠ 4 * (16 * k + q) + c) → mdC cm k n m 7 0 a = cm 7 0 a) ∧ (∀ l a, 14 ≤ l ∧ l ≤ 18 → (∀ c, c < m → a ≠ 4 * k + c) → mdC cm k n m l 0 a = cm l 0 a) ∧ ∀ c, c < m → ∃ X : CM, (∀ j, j ≠ 7 → j ≠ 14 → j ≠ 15 → j ≠ 17 → j ≠ 18 → X j = cm j) ∧ ∀ l, 14 ≤ l ∧ l ≤ 18 → mdC cm k n m l 0 (4 * k + c) = mdCol X k c n l 0 (4 * k + c) := by
  intro m
  induction m with
  | zero => intro _; exact ⟨fun q c _ h => by omega, fun a _ => rfl, fun l a _ _ => rfl, fun c h => by omega⟩
  | succ m ih =>
    intro hm
    obtain ⟨h1, h2, h3, h4⟩ := ih (by omega)
    obtain ⟨g1, g2⟩ := mdCol_7 (X := mdC cm k n m) (k := k) (col := m) n
    have hn' : ∀ j, j ≠ 7 → j ≠ 14 → j ≠ 15 → j ≠ 17 → j ≠ 18 → mdC cm k n m j = cm j := fun j a b c d e => mdC_n a b c d e m
    rw [mdC]
    refine ⟨fun q c hq hc => ?_, fun a ha => ?_, fun l a hl ha => ?_, fun c hc => ?_⟩
    · by_cases hcm : c = m
      · subst hcm
        rw [g1 q hq]
        exact mdV_ck (fun j hj => hn' j (by omega) (by omega) (by omega) (by omega) (by omega)) _ _
      · rw [g2 _ fun q' hq' => by omega]
        exact h1 q c hq (by omega)
    · rw [g2 _ fun q' hq' => ha q' m hq' (by omega)]
      exact h2 a fun q c hq hc => ha q c hq (by omega)
    · rw [mdCol_o hl (ha m (by omega)) n hn]
      exact h3 l a hl fun c hc => ha c (by omega)
    · by_cases hcm : c = m
      · subst hcm
        exact ⟨mdC cm k n c, hn', fun l _ => rfl⟩
      · obtain ⟨X, x1, x2⟩ := h4 c (by omega)
        exact ⟨X, x1, fun l hl => by rw [mdCol_o hl (by omega) n hn]; exact x2 l hl⟩


