-- deps: a5.simB 87.load2 36.mo15
/-! a row is loaded -/
theorem vC_0 {sh : Sh} {V : CV} {st : Int32} : vC sh V st (100 + 10 * sh.C) = (fun k => if k = 0 then st else 0) := by rw [vC, if_neg (by omega), if_pos rfl]
theorem vC_1 {sh : Sh} {V : CV} {st : Int32} : vC sh V st (100 + 10 * sh.C + 1) = v0 := by rw [vC, if_neg (by omega), if_neg (by omega), if_pos rfl]
theorem vC_3 {sh : Sh} {V : CV} {st : Int32} : vC sh V st (100 + 10 * sh.C + 3) = v1000 := by rw [vC, if_neg (by omega), if_neg (by omega), if_neg (by omega), if_pos rfl]
theorem vC_4 {sh : Sh} {V : CV} {st : Int32} : vC sh V st (100 + 10 * sh.C + 4) = vm1000 := by rw [vC, if_neg (by omega), if_neg (by omega), if_neg (by omega), if_neg (by omega), if_pos rfl]
theorem vC_5 {sh : Sh} {V : CV} {st : Int32} : vC sh V st (100 + 10 * sh.C + 5) = v0 := by rw [vC, if_neg (by omega), if_neg (by omega), if_neg (by omega), if_neg (by omega), if_neg (by omega), if_pos rfl]
theorem shC_1 {sh : Sh} : (shC sh).N (100 + 10 * sh.C + 1) = 64 := by
  show (if _ then _ else _) = _
  rw [if_neg (by omega), if_pos rfl]
theorem shC_3 {sh : Sh} : (shC sh).N (100 + 10 * sh.C + 3) = 4 := by
  show (if _ then _ else _) = _
  rw [if_neg (by omega), if_neg (by omega), if_pos rfl]
theorem shC_4 {sh : Sh} : (shC sh).N (100 + 10 * sh.C + 4) = 4 := by
  show (if _ then _ else _) = _
  rw [if_neg (by omega), if_neg (by omega), if_neg (by omega), if_pos rfl]
theorem shC_5 {sh : Sh} : (shC sh).N (100 + 10 * sh.C + 5) = 4 := by
  show (if _ then _ else _) = _
  rw [if_neg (by omega), if_neg (by omega), if_neg (by omega), if_neg (by omega), if_pos rfl]
/-- the chunk of the row stands, a new one perhaps -/
theorem pl_W {cm : CM} {sh : Sh} {V : CV} {R : Nat} (hR : R < 160) (hL : LsOk sh V 4) (hCe : sh.C = (R + 15) / 16) (hCk : ∀ k, k < sh.C → CkS cm sh V R k) (hz : ∀ k, sh.C ≤ k → k < 10 → ∀ c, c < 4 → cm 17 0 (4 * k + c) = 0) (hf : ∀ k, sh.C ≤ k → k < 10 → cm 16 0 k = 0 ∧ ∀ c, c < 4 → cm 18 0 (4 * k + c) = 0) :
    LsOk (plS sh R) (plW sh V R) 4 ∧ (plS sh R).C = (R + 16) / 16 ∧ (plS sh R).F = sh.F ∧ (plS sh R).S = sh.S ∧ (∀ i, i ≠ 5 → (i < 100 ∨ 200 ≤ i) → (plS sh R).N i = sh.N i) ∧ (∀ i, i ≠ 4 → (i < 100 ∨ 200 ≤ i) → plW sh V R i = V i) ∧ ∀ k, k < (plS sh R).C → CkS cm (plS sh R) (plW sh V R) R k := by
  by_cases h : R / 16 = sh.C
  · rw [plS, plW, if_pos h, if_pos h]
    obtain ⟨l1, l2, l3, l4⟩ := hL
    have l3' : sh.C ≤ sh.N 5 := l3
    have hg := alG_le l3' (by omega) l4
    refine ⟨⟨l1, rfl, ?_, ?_⟩, ?_, rfl, rfl, fun i h5 hi => shC_N h5 (by omega), fun i h4 hi => vC_o h4 (by omega), fun k hk => ?_⟩
    · show sh.C + 1 ≤ alG sh.C (sh.N 5)
      omega
    · show alG sh.C (sh.N 5) ≤ 1000
      omega
    · show sh.C + 1 = _
      omega
    · have hk' : k < sh.C + 1 := hk
      by_cases hkC : k = sh.C
      · subst hkC
        have eR : R = 16 * sh.C := by omega
        refine ⟨?_, ?_, ?_, shC_1, ⟨shC_3, shC_4, shC_5⟩, fun c hc => ?_, fun i hi c hc => ⟨fun h => by omega, fun _ => ?_⟩⟩
        · rw [vC_0, eR]; rfl
        · rw [vC_0, eR, Nat.sub_self]; rfl
        · rw [vC_0, (hf sh.C (Nat.le_refl _) (by omega)).1]; rfl
        · show BdS1 cm _ _ _ _
          have e17 := hz sh.C (Nat.le_refl _) (by omega) c hc
          have e18 := (hf sh.C (Nat.le_refl _) (by omega)).2 c hc
          rw [BdS1, e17, e18]
          show _ ∧ _ ∧ vC sh V (nI R) (100 + 10 * sh.C + 5) c = 0 ∧ (_ → vC sh V (nI R) (100 + 10 * sh.C + 3) c = 1000 ∧ vC sh V (nI R) (100 + 10 * sh.C + 4) c = -1000) ∧ _
          rw [vC_3, vC_4, vC_5]
          exact ⟨.inl rfl, .inl rfl, rfl, fun _ => ⟨by rw [v1000, if_pos hc], by rw [vm1000, if_pos hc]⟩, fun h => absurd rfl h⟩
        · rw [vC_1]; rfl
      · exact ((hCk k (by omega)).cg fun i h1 h2 => vC_o (by omega) (by omega)).shc fun i h1 h2 => shC_N (by omega) (by omega)
  · rw [plS, plW, if_neg h, if_neg h]
    exact ⟨hL, by omega, rfl, rfl, fun _ _ _ => rfl, fun _ _ _ => rfl, hCk⟩
/-- what a row's load changes of the reference -/
def LdX (cm cm' : CM) (R M : Nat) (X : Nat → Int32) : Prop :=
  cm' 0 0 0 = nI (R + 1) ∧ (∀ c, c < 4 → cm' 6 0 (4 * R + c) = X c) ∧ (∀ a, (∀ c, c < 4 → a ≠ 4 * R + c) → cm' 6 0 a = cm 6 0 a) ∧
  (∀ c, c < 4 → cm' 7 0 (4 * R + c) = X c) ∧ (∀ a, (∀ c, c < 4 → a ≠ 4 * R + c) → cm' 7 0 a = cm 7 0 a) ∧ cm' 8 0 = upd (cm 8 0) R (nI M) ∧ cm' 9 0 = upd (cm 9 0) R 0 ∧
  (∀ l a, 14 ≤ l ∧ l ≤ 18 → (∀ c, c < 4 → a ≠ 4 * (R / 16) + c) → cm' l 0 a = cm l 0 a) ∧ (∀ c, c < 4 → ∃ Y : CM, (∀ l, 14 ≤ l ∧ l ≤ 18 → Y l 0 (4 * (R / 16) + c) = cm l 0 (4 * (R / 16) + c)) ∧ ∀ l, 14 ≤ l ∧ l ≤ 18 → cm' l 0 (4 * (R / 16) + c) = wdC Y R c (X c) l 0 (4 * (R / 16) + c)) ∧
  cm' 16 = cm 16 ∧ ∀ k, (1 ≤ k ∧ k ≤ 5) ∨ (10 ≤ k ∧ k ≤ 13) ∨ 19 ≤ k → cm' k = cm k
def rowX (x : Int32) (i : Nat) (c : Nat) : Int32 := if c = 0 then x else if c = 1 then x * x - x * x / 37 * 37 else if c = 2 then nI i / 4 else x - x / 3 * 3
theorem ld_X {cm : CM} {R M i : Nat} {a b d : Int32} (h0 : cm 0 0 0 = nI R) (hR : R < 160) (h1 : cm 1 0 0 = nI M) : LdX cm (ldCol (ldRow cm a b d i) R 4) R M (rowX (flm (a + nI i * b) d) i) := by
  have r6 : ∀ c, c < 4 → ldRow cm a b d i 6 0 (4 * R + c) = rowX (flm (a + nI i * b) d) i c := by
    intro c hc
    rw [ldRow, h0, nn_nI (by omega), c3_n (by decide), c3_n (by decide), c3_n (by decide), rowX]
    rcases (show c = 0 ∨ c = 1 ∨ c = 2 ∨ c = 3 by omega) with rfl | rfl | rfl | rfl
    · rw [c3_o (by omega), c3_o (by omega), c3_o (by omega), Nat.add_zero, c3_s, upd_s]; rfl
    · rw [c3_o (by omega), c3_o (by omega), c3_s, upd_s]; rfl
    · rw [c3_o (by omega), c3_s, upd_s]; rfl
    · rw [c3_s, upd_s]; rfl
  have r6n : ∀ x, (∀ c, c < 4 → x ≠ 4 * R + c) → ldRow cm a b d i 6 0 x = cm 6 0 x := by
    intro x hx
    rw [ldRow, h0, nn_nI (by omega), c3_n (by decide), c3_n (by decide), c3_n (by decide), c3_o (hx 3 (by omega)), c3_o (hx 2 (by omega)), c3_o (hx 1 (by omega)), c3_o (show x ≠ 4 * R from hx 0 (by omega))]
  have r8 : ldRow cm a b d i 8 0 = upd (cm 8 0) R (nI M) := by
    rw [ldRow, h0, nn_nI (by omega), c3_n (by decide), c3_n (by decide), c3_s, h1, c3_n (by decide), c3_n (by decide), c3_n (by decide), c3_n (by decide)]
  have r9 : ldRow cm a b d i 9 0 = upd (cm 9 0) R 0 := by
    rw [ldRow, h0, nn_nI (by omega), c3_n (by decide), c3_s, c3_n (by decide), c3_n (by decide), c3_n (by decide), c3_n (by decide), c3_n (by decide)]
  have r0 : ldRow cm a b d i 0 0 0 = nI (R + 1) := by
    rw [ldRow, c3_s, upd_s, h0]; exact nI_add R 1
  have rn := fun k a1 a2 a3 a4 => ldRow_n (cm := cm) (a := a) (b := b) (c := d) (i := i) (k := k) a1 a2 a3 a4
  generalize ldRow cm a b d i = Z at *
  have cn := fun k m a1 a2 a3 a4 a5 => ldCol_n (cm := Z) (R := R) (k := k) a1 a2 a3 a4 a5 m
  have col7 : ∀ m, m ≤ 4 → (∀ c, c < m → ldCol Z R m 7 0 (4 * R + c) = rowX (flm (a + nI i * b) d) i c) ∧ (∀ x, (∀ c, c < m → x ≠ 4 * R + c) → ldCol Z R m 7 0 x = Z 7 0 x) ∧ (∀ l x, 14 ≤ l ∧ l ≤ 18 → (∀ c, c < m → x ≠ 4 * (R / 16) + c) → ldCol Z R m l 0 x = Z l 0 x) ∧ ∀ c, c < m → ∃ Y : CM, (∀ l, 14 ≤ l ∧ l ≤ 18 → Y l 0 (4 * (R / 16) + c) = Z l 0 (4 * (R / 16) + c)) ∧ ∀ l, 14 ≤ l ∧ l ≤ 18 → ldCol Z R m l 0 (4 * (R / 16) + c) = wdC Y R c (rowX (flm (a + nI i * b) d) i c) l 0 (4 * (R / 16) + c) := by
    intro m
    induction m with
    | zero => intro _; exact ⟨fun c h => by omega, fun x _ => rfl, fun l x _ _ => rfl, fun c h => by omega⟩
    | succ m ih =>
      intro hm
      obtain ⟨i1, i2, i3, i4⟩ := ih (by omega)
      have e6 : ldCol Z R m 6 0 (4 * R + m) = rowX (flm (a + nI i * b) d) i m := by rw [cn 6 m (by decide) (by decide) (by decide) (by decide) (by decide)]; exact r6 m (by omega)
      rw [ldCol, e6]
      have e7 : ∀ x, wdC (c3 (ldCol Z R m) 7 0 (4 * R + m) (rowX (flm (a + nI i * b) d) i m)) R m (rowX (flm (a + nI i * b) d) i m) 7 0 x = upd (ldCol Z R m 7 0) (4 * R + m) (rowX (flm (a + nI i * b) d) i m) x := fun x => by rw [wdC_n (by decide) (by decide) (by decide) (by decide), c3_s]
      refine ⟨fun c hc => ?_, fun x hx => ?_, fun l x hl hx => ?_, fun c hc => ?_⟩
      · rw [e7]
        by_cases h : c = m
        · subst h; rw [upd_s]
        · rw [upd_n _ _ (by omega)]; exact i1 c (by omega)
      · rw [e7, upd_n _ _ (hx m (by omega))]
        exact i2 x fun c hc => hx c (by omega)
      · rw [wdC_o (hx m (by omega)), c3_n (by omega)]
        exact i3 l x hl fun c hc => hx c (by omega)
      · by_cases h : c = m
        · subst h
          refine ⟨c3 (ldCol Z R c) 7 0 (4 * R + c) (rowX (flm (a + nI i * b) d) i c), fun l hl => ?_, fun l _ => rfl⟩
          rw [c3_n (by omega)]
          exact i3 l _ hl fun c' hc' => by omega
        · obtain ⟨Y, y1, y2⟩ := i4 c (by omega)
          exact ⟨Y, y1, fun l hl => by rw [wdC_o (by omega), c3_n (by omega)]; exact y2 l hl⟩
  obtain ⟨i1, i2, i3, i4⟩ := col7 4 (Nat.le_refl _)
  have z7 : Z 7 = cm 7 := rn 7 (by decide) (by decide) (by decide) (by decide)
  have zb : ∀ l, 14 ≤ l ∧ l ≤ 18 → Z l = cm l := fun l hl => rn l (by omega) (by omega) (by omega) (by omega)
  refine ⟨?_, fun c hc => ?_, fun x hx => ?_, i1, fun x hx => ?_, ?_, ?_, fun l x hl hx => ?_, fun c hc => ?_, ?_, fun k hk => ?_⟩
  · rw [cn 0 4 (by decide) (by decide) (by decide) (by decide) (by decide)]; exact r0
  · rw [cn 6 4 (by decide) (by decide) (by decide) (by decide) (by decide)]; exact r6 c hc
  · rw [cn 6 4 (by decide) (by decide) (by decide) (by decide) (by decide)]; exact r6n x hx
  · rw [i2 x hx, z7]
  · rw [cn 8 4 (by decide) (by decide) (by decide) (by decide) (by decide)]; exact r8
  · rw [cn 9 4 (by decide) (by decide) (by decide) (by decide) (by decide)]; exact r9
  · rw [i3 l x hl hx, zb l hl]
  · obtain ⟨Y, y1, y2⟩ := i4 c hc
    exact ⟨Y, fun l hl => by rw [y1 l hl, zb l hl], y2⟩
  · rw [cn 16 4 (by decide) (by decide) (by decide) (by decide) (by decide), zb 16 (by omega)]
  · rw [cn k 4 (by omega) (by omega) (by omega) (by omega) (by omega), rn k (by omega) (by omega) (by omega) (by omega)]
theorem lkup_base {cm : CM} {r c : Nat} {t : Int32} : ∀ n, (∀ k, k < n → ¬ cm 10 0 k = nI r) → lkup cm r c t n = cm 6 0 (4 * r + c)
  | 0, _ => rfl
  | n + 1, h => by
    rw [lkup, if_neg fun q => h n (by omega) q.1]
    exact lkup_base n fun k hk => h k (by omega)
/-- one scan -/
theorem scan1 {cm cm' : CM} {sh sh' : Sh} {V W : CV} {R R' M M' s Dn : Nat} (hF : FR cm sh V) (hR160 : R ≤ 160) (H : ScG cm sh V R M s Dn) (hC : ClG cm s R) (h : ScE s cm cm') (hT : TmE cm cm' R M) (e : ∀ k j, 19 ≤ k → k ≤ 21 → j < sh.F → cm' k 0 j = cm k 0 j) (hR : R ≤ R') (hM : M ≤ M') (hd : ∀ r t, R ≤ r → r < R' → t ≤ M → aliveM cm' r (nI t) = false)
    (hv : ∀ i, 400 ≤ i → W i = V i) (hFl : sh.F ≤ sh'.F) (hN : ∀ i, 400 ≤ i → sh'.N i = sh.N i) : ScG cm' sh' W R' M' s Dn ∧ ClG cm' s R' := by
  obtain ⟨j, ns, ts, x, y, ⟨a1, a2, a3, a4, a5, a6, a7, a8, a9, -⟩, h2, -⟩ := id H
  exact ⟨H.sce h hT hR hM hd (fun i _ _ => hv i (by omega)) hFl (fun i _ _ => hN i (by omega)) (Nat.le_refl _), hC.ck h hF e ⟨j, a1, a3⟩ a5 a7 a9 h2 hR160 hT hR hd⟩
/-- what stands between two rows of a load: M is the moment ahead of it -/
def LrI (cm : CM) (sh : Sh) (V : CV) (R M G P Dn : Nat) (W : Nat → Nat) : Prop :=
  TmR cm R (M + 1) G ∧ FR cm sh V ∧ FsOk sh V ∧ LsOk sh V 14 ∧ LsOk sh V 4 ∧ sh.C = (R + 15) / 16 ∧ (∀ k, k < sh.C → CkS cm sh V R k) ∧ (∀ k, sh.C ≤ k → k < 10 → ∀ c, c < 4 → cm 17 0 (4 * k + c) = 0) ∧ cm 5 0 0 = nI P ∧ V 0 8 = nI P ∧ cm 4 0 0 = nI sh.S ∧ sh.S ≤ 40 ∧ cm 45 0 0 = nI Dn ∧ V 0 10 = nI Dn ∧ Dn = cntN (fun s => !decide (cm 33 0 s = 0)) sh.S ∧ (∀ s, s < sh.S → ScG cm sh V R M s Dn ∧ ClG cm s R) ∧
  NwS cm sh V R (M + 1) ∧ WtS cm R (M + 1) G (M + 1) W ∧ FhS cm sh ∧ BsS cm R (M + 1) ∧ OpB cm sh.S R M
theorem ld_row {cm cm' : CM} {sh : Sh} {V : CV} {R M G P Dn i : Nat} {W : Nat → Nat} {x : Int32} {X : Nat → Int32} (H : LrI cm sh V R M G P Dn W) (hR160 : R < 160) (hx : LdX cm cm' R (M + 1) X) (hX : ∀ c, c < 4 → -999 ≤ (X c).toInt ∧ (X c).toInt ≤ 999) (eX : X = rowX x i) :
    LrI cm' (plS sh R) (plV sh (lrA V x i) R) (R + 1) M G P Dn W ∧ (plS sh R).S = sh.S ∧ (∀ k, plV sh (lrA V x i) R 0 k = V 0 k) ∧ plV sh (lrA V x i) R 18 = V 18 := by
  obtain ⟨hT, hF, hFs, hL14, hL4, hCe, hCk, hz, e5, v8, e4, hS, e45, v10, hDn, hSc, ⟨n1, n2, n3, n4, n5⟩, hWt, hFh, hBs, hOp⟩ := H
  obtain ⟨hR, hM1, hG, h0, h1, h2, hTL, hTA⟩ := id hT
  obtain ⟨x0, x6, x6n, x7, x7n, x8, x9, xb, xY, x16, xn⟩ := hx
  have hF30 := hF.2.1
  have t5 : (5000 : Int32).toInt = 5000 := by decide
  have hXv : ∀ c, c < 4 → vl (X c) ∧ ¬ X c = 5000 ∧ mp (X c) = X c := fun c hc => by
    have hne : ¬ X c = 5000 := fun e => by have := hX c hc; rw [e, t5] at this; omega
    exact ⟨.inr (hX c hc), hne, if_neg hne⟩
  -- the reference
  have hTA' : TmA cm' (R + 1) (M + 1) := by
    intro q hq
    by_cases hqR : q = R
    · subst hqR
      rw [x8, x9, upd_s, upd_s]
      exact ⟨⟨M + 1, Nat.le_refl _, rfl⟩, ⟨0, Nat.zero_le _, rfl⟩, fun c hc => by rw [x6 c hc]; exact (hXv c hc).1⟩
    · rw [x8, x9, upd_n _ _ hqR, upd_n _ _ hqR]
      obtain ⟨p1, p2, p3⟩ := hTA q (by omega)
      exact ⟨p1, p2, fun c hc => by rw [x6n _ fun c' hc' => by omega]; exact p3 c hc⟩
  have hTL' : TmL cm' (R + 1) (M + 1) G := by
    intro k hk
    rw [xn 13 (by omega), xn 12 (by omega), xn 10 (by omega)]
    obtain ⟨p1, p2, r, hr, p3⟩ := hTL k hk
    exact ⟨p1, p2, r, by omega, p3⟩
  have hT' : TmR cm' (R + 1) (M + 1) G := ⟨by omega, hM1, hG, x0, by rw [xn 1 (by omega)]; exact h1, by rw [xn 2 (by omega)]; exact h2, hTL', hTA'⟩
  have hE : ∀ T, TmE cm cm' R T := by
    intro T r t hr _
    refine ⟨fun c hc => ?_, ?_⟩
    · rw [lk, lk, xn 2 (by omega)]
      exact lkup_cg (x6n _ fun c' hc' => by omega) _ fun k _ => ⟨by rw [xn 10 (by omega)], by rw [xn 11 (by omega)], by rw [xn 12 (by omega)], by rw [xn 13 (by omega)]⟩
    · rw [aliveM, aliveM, x8, x9, upd_n _ _ (by omega), upd_n _ _ (by omega)]
  have hlR : ∀ c t, c < 4 → lk cm' R c t = X c := by
    intro c t hc
    rw [lk, lkup_base _ fun k hk => ?_, x6 c hc]
    rw [xn 10 (by omega)]
    rw [xn 2 (by omega), h2, nn_nI (by omega)] at hk
    obtain ⟨-, -, r, hr, p3⟩ := hTL k hk
    rw [p3]
    intro q
    have := nI_i q (by omega) (by omega)
    omega
  have haR : ∀ t, t ≤ M + 1 → aliveM cm' R (nI t) = decide (M + 1 ≤ t) := by
    intro t ht
    rw [aliveM, x8, x9, upd_s, upd_s, decide_eq_true (show (0 : Int32) = 0 from rfl), Bool.true_or, Bool.and_true, decide_eq_decide, nI_leq (by omega) (by omega)]
  have hbd : ∀ a v, BdI cm a v → BdI cm' a v := by
    intro a v hv
    by_cases ha : ∃ c, c < 4 ∧ a = 4 * (R / 16) + c
    · obtain ⟨c, hc, rfl⟩ := ha
      obtain ⟨Y, y1, y2⟩ := xY c hc
      have hY : BdI Y (4 * (R / 16) + c) v := hv.at fun l hl => y1 l (by omega)
      exact (hY.wd (r := R) (c := c) (v := X c)).at fun l hl => y2 l (by omega)
    · exact hv.at fun l hl => xb l a (by omega) fun c hc e => ha ⟨c, hc, e⟩
  -- the class: the row is appended
  have eR2 : nn (V 1 2) = R := by rw [n1.1, nn_nI (by omega)]
  have r1n : ∀ i', i' ≠ 1 → i' ≠ 2 → i' ≠ 3 → lrA V x i i' = V i' := fun i' a b c => by rw [lrA, rApp_n a b c]
  have r13 : lrA V x i 3 = upd (V 3) R 1 := by
    rw [lrA, eR2, rApp]
    rw [c2_n _ _ _ (by decide), c2_n _ _ _ (by decide), c2_n _ _ _ (by decide), c2_n _ _ _ (by decide), c2_n _ _ _ (by decide), c2_n _ _ _ (by decide), c2_s]
  have r112 : lrA V x i 1 2 = nI (R + 1) := by rw [lrA, eR2, rApp_2]
  have r113 : lrA V x i 1 3 = V 1 3 + 1 := by
    rw [lrA, eR2, rApp, c2_n _ _ _ (by decide), c2_n _ _ _ (by decide), c2_n _ _ _ (by decide), c2_n _ _ _ (by decide), c2_e]
  have r12 : ∀ a, (∀ c, c < 4 → a ≠ 4 * R + c) → lrA V x i 2 a = V 2 a := by
    intro a ha
    rw [lrA, eR2, rApp]
    rw [c2_o (.inr (ha 3 (by omega))), c2_o (.inr (ha 2 (by omega))), c2_o (.inr (ha 1 (by omega))), c2_o (.inr (ha 0 (by omega))), c2_n _ _ _ (by decide), c2_n _ _ _ (by decide), c2_n _ _ _ (by decide)]
  have r12' : ∀ c, c < 4 → lrA V x i 2 (4 * R + c) = X c := by
    intro c hc
    rw [lrA, eR2, rApp, eX, rowX]
    rcases (show c = 0 ∨ c = 1 ∨ c = 2 ∨ c = 3 by omega) with rfl | rfl | rfl | rfl
    · rw [c2_o (.inr (by omega)), c2_o (.inr (by omega)), c2_o (.inr (by omega))]; exact c2_e
    · rw [c2_o (.inr (by omega)), c2_o (.inr (by omega))]; exact c2_e
    · rw [c2_o (.inr (by omega))]; exact c2_e
    · exact c2_e
  generalize lrA V x i = V1 at *
  obtain ⟨p1, p2, p3, p4, p5, p6, p7⟩ := pl_W (cm := cm) (sh := sh) (V := V1) hR160 (LsOk_cgv (r1n 4 (by omega) (by omega) (by omega)) hL4) hCe (fun k hk => (hCk k hk).cg fun i h1 h2 => r1n i (by omega) (by omega) (by omega)) hz hFh.2.1
  rw [plV]
  generalize plW sh V1 R = W1 at *
  generalize plS sh R = sh' at *
  have hk : R / 16 < sh'.C := by omega
  obtain ⟨c1, c2', c3', c4, c5, c6, c7⟩ := p7 (R / 16) hk
  have en : nn (W1 (100 + 10 * (R / 16)) 3) = R - 16 * (R / 16) := by rw [c2', nn_nI (by omega)]; omega
  rw [en]
  generalize hn : R - 16 * (R / 16) = n
  have hn16 : n < 16 ∧ R = 16 * (R / 16) + n := by omega
  have hW3 : W1 3 = upd (V 3) R 1 := by rw [p6 3 (by omega) (by omega), r13]
  have hW12 : W1 1 2 = nI (R + 1) := by rw [p6 1 (by omega) (by omega), r112]
  have hN3 : sh'.N 3 = 160 := by rw [p5 3 (by omega) (by omega), n2]
  have hal : rAl sh' W1 1 R = true := by
    rw [rAl]
    show (decide (R < sh'.N 3) && !decide (W1 3 R = 0)) = true
    rw [hN3, hW3, upd_s, decide_eq_true hR160]; rfl
  have htb : ∀ c, c < 4 → tbV sh' W1 R c = X c := by
    intro c hc
    rw [tbV, hal, if_pos rfl, rVal, hW12, nn_nI (by omega), if_pos (by omega)]
    show W1 2 _ = _
    rw [p6 2 (by omega) (by omega), r12' c hc]
  have a0 : ∀ j, j ≠ 100 + 10 * (R / 16) → j ≠ 100 + 10 * (R / 16) + 1 → j ≠ 100 + 10 * (R / 16) + 3 → j ≠ 100 + 10 * (R / 16) + 4 → j ≠ 100 + 10 * (R / 16) + 5 → chA sh' W1 (100 + 10 * (R / 16)) R n j = W1 j := fun j a b c d e => chA_n a b c d e
  have ak : ∀ k, k ≠ 3 → chA sh' W1 (100 + 10 * (R / 16)) R n (100 + 10 * (R / 16)) k = W1 (100 + 10 * (R / 16)) k := fun k hk => by rw [chA, c2_o (.inr hk), tbT_n (by omega) (by omega) (by omega) (by omega)]
  have a3 : chA sh' W1 (100 + 10 * (R / 16)) R n (100 + 10 * (R / 16)) 3 = nI (n + 1) := chA_3
  have av : ∀ q c, c < 4 → chA sh' W1 (100 + 10 * (R / 16)) R n (100 + 10 * (R / 16) + 1) (4 * q + c) = if q = n then X c else W1 (100 + 10 * (R / 16) + 1) (4 * q + c) := by
    intro q c hc
    rw [chA, c2_n _ _ _ (by omega), tbT_v hc 4 (by omega), htb c hc]
    by_cases h : q = n
    · rw [if_pos ⟨h, hc⟩, if_pos h]
    · rw [if_neg (fun q => h q.1), if_neg h]
  have ab : ∀ l c, (l = 1 ∨ l = 2 ∨ l = 3) → c < 4 → chA sh' W1 (100 + 10 * (R / 16)) R n (100 + 10 * (R / 16) + 2 + l) c = bAd W1 (100 + 10 * (R / 16) + 2) c (X c) (100 + 10 * (R / 16) + 2 + l) c := by
    intro l c hl hc
    rw [chA, c2_n _ _ _ (by omega), tbT_b hl, if_pos ⟨hc, hal⟩, htb c hc]
  generalize chA sh' W1 (100 + 10 * (R / 16)) R n = V' at *
  have hV : ∀ j, j ≠ 1 → j ≠ 2 → j ≠ 3 → j ≠ 4 → (j < 100 ∨ 200 ≤ j) → V' j = V j := fun j a b c d e => by
    rw [a0 j (by omega) (by omega) (by omega) (by omega) (by omega), p6 j d e, r1n j a b c]
  have hV1 : ∀ k, V' 1 k = V1 1 k := fun k => by rw [a0 1 (by omega) (by omega) (by omega) (by omega) (by omega), p6 1 (by omega) (by omega)]
  have hd : ∀ r t, R ≤ r → r < R + 1 → t ≤ M → aliveM cm' r (nI t) = false := fun r t a b ht => by
    have : r = R := by omega
    rw [this, haR t (by omega), decide_eq_false (by omega)]
  have hsc : ∀ s, s < sh.S → ScG cm' sh' V' (R + 1) M s Dn ∧ ClG cm' s (R + 1) := fun s hs =>
    scan1 hF hR (hSc s hs).1 (hSc s hs).2 (ScE.of fun k hk => xn k (by omega)) (hE M) (fun k j h1 h2 _ => by rw [xn k (by omega)]) (by omega) (Nat.le_refl _) hd (fun i hi => hV i (by omega) (by omega) (by omega) (by omega) (by omega)) (by omega) (fun i hi => p5 i (by omega) (by omega))
  refine ⟨⟨hT', ?_, ⟨LsOk_sh (hV 7 (by omega) (by omega) (by omega) (by omega) (by omega)) (show sh'.F = sh.F from p3) (p5 8 (by omega) (by omega)) hFs.1, by rw [p5 9 (by omega) (by omega)]; exact hFs.2.1, by rw [BdOk, p5 _ (by omega) (by omega), p5 _ (by omega) (by omega), p5 _ (by omega) (by omega)]; exact hFs.2.2.1, by rw [p3]; exact hFs.2.2.2⟩, LsOk_sh (hV 14 (by omega) (by omega) (by omega) (by omega) (by omega)) (show sh'.S = sh.S from p4) (p5 15 (by omega) (by omega)) hL14, LsOk_cgv (a0 4 (by omega) (by omega) (by omega) (by omega) (by omega)) p1, p2, fun k hk' => ?_, fun k ha hb c hc => ?_, by rw [xn 5 (by omega)]; exact e5, by rw [hV 0 (by omega) (by omega) (by omega) (by omega) (by omega)]; exact v8, by rw [xn 4 (by omega), p4]; exact e4, by rw [p4]; exact hS, by rw [xn 45 (by omega)]; exact e45, by rw [hV 0 (by omega) (by omega) (by omega) (by omega) (by omega)]; exact v10, by rw [xn 33 (by omega), p4]; exact hDn, fun s hs => hsc s (by omega), ⟨⟨?_, ?_, ?_, ?_, fun r c hr hc => ?_, fun r hr => ?_, fun r ha hb => ?_⟩, hN3, ?_, by rw [p5 17 (by omega) (by omega)]; exact n4, by rw [p5 18 (by omega) (by omega)]; exact n5⟩, ⟨Nat.le_refl _, hWt.2.1, by rw [xn 11 (by omega), xn 13 (by omega)]; exact hWt.2.2.1, fun r hr => ?_⟩, ⟨fun a ha => ?_, fun k ha hb => ⟨?_, fun c hc => ?_⟩, fun s ha hb => ⟨?_, ?_⟩⟩, fun r hr ha c hc => ?_, ?_⟩, p4, fun k => by rw [hV 0 (by omega) (by omega) (by omega) (by omega) (by omega)], hV 18 (by omega) (by omega) (by omega) (by omega) (by omega)⟩
  · have hf := (hF.cm (cm' := cm') fun k hk => xn k (by omega)).cg (W := V') fun i h1 h2 => hV i (by omega) (by omega) (by omega) (by omega) (by omega)
    rw [FR, p3]
    exact hf
  · by_cases hkR : k = R / 16
    · subst hkR
      refine ⟨by rw [ak 0 (by decide)]; exact c1, by rw [a3]; congr 1; omega, by rw [ak 4 (by decide), x16]; exact c3', c4, c5, fun c hc => ?_, fun q hq c hc => ?_⟩
      · obtain ⟨Y, y1, y2⟩ := xY c hc
        have hY : BdS1 Y W1 (100 + 10 * (R / 16) + 2) (R / 16) c := (c6 c hc).ck (fun l hl => y1 l (by omega)) rfl rfl rfl
        have hb := bd_ad (r := R) (c := c) hY (hXv c hc).1
        rw [(hXv c hc).2.2] at hb
        exact hb.ck (fun l hl => y2 l (by omega)) (ab 1 c (by omega) hc) (ab 2 c (by omega) hc) (ab 3 c (by omega) hc)
      · rw [av q c hc]
        have ebv : ∀ q', q' ≠ n → q' < 16 → bv cm' (R / 16) c q' = bv cm (R / 16) c q' := fun q' h h' => by rw [bv, bv, x7n _ fun c' hc' => by omega]
        refine ⟨fun hqR => ?_, fun hqR => ?_⟩
        · by_cases hqn : q = n
          · subst hqn
            have ebn : bv cm' (R / 16) c q = X c := by rw [bv, ← hn16.2, x7 c hc]
            rw [if_pos rfl, ebn]
            exact ⟨(hXv c hc).2.2.symm, (hXv c hc).1⟩
          · rw [if_neg hqn, ebv q hqn hq]
            exact (c7 q hq c hc).1 (by omega)
        · rw [if_neg (by omega)]
          exact (c7 q hq c hc).2 (by omega)
    · obtain ⟨d1, d2, d3, d4, d5, d6, d7⟩ := p7 k hk'
      have hVk : ∀ j, 100 + 10 * k ≤ j → j < 110 + 10 * k → V' j = W1 j := fun j h1 h2 => a0 j (by omega) (by omega) (by omega) (by omega) (by omega)
      have hkl : k < R / 16 := by omega
      refine ⟨by rw [hVk _ (by omega) (by omega)]; exact d1, by rw [hVk _ (by omega) (by omega), d2]; congr 1; omega, by rw [hVk _ (by omega) (by omega), x16]; exact d3, d4, d5, fun c hc => (d6 c hc).ck (fun l hl => xb l _ (by omega) fun c' hc' => by omega) (by rw [hVk _ (by omega) (by omega)]) (by rw [hVk _ (by omega) (by omega)]) (by rw [hVk _ (by omega) (by omega)]), fun q hq c hc => ?_⟩
      have ebv : bv cm' k c q = bv cm k c q := by rw [bv, bv, x7n _ fun c' hc' => by omega]
      rw [ebv, hVk _ (by omega) (by omega)]
      exact ⟨fun _ => (d7 q hq c hc).1 (by omega), fun h => by omega⟩
  · rw [xb 17 _ (by omega) fun c' hc' => by omega]; exact hz k (by omega) hb c hc
  · rw [hV1, r112]
  · show R + 1 ≤ sh'.N 3
    omega
  · show sh'.N 2 = 4 * sh'.N 3
    rw [p5 2 (by omega) (by omega), hN3, ← n2]; exact n1.2.2.1
  · show sh'.N 3 ≤ 160
    omega
  · show V' 2 _ = _
    rw [a0 2 (by omega) (by omega) (by omega) (by omega) (by omega), p6 2 (by omega) (by omega)]
    by_cases hrR : r = R
    · subst hrR
      rw [r12' c hc, hlR c _ hc, (hXv c hc).2.2]
    · rw [r12 _ fun c' hc' => by omega, (hE (M + 1) r (M + 1) (by omega) (Nat.le_refl _)).1 c hc]
      exact n1.2.2.2.2.1 r c (by omega) hc
  · show V' 3 _ = _
    rw [a0 3 (by omega) (by omega) (by omega) (by omega) (by omega), hW3]
    by_cases hrR : r = R
    · subst hrR
      rw [upd_s, haR _ (Nat.le_refl _), decide_eq_true (Nat.le_refl _)]; rfl
    · rw [upd_n _ _ hrR, (hE (M + 1) r (M + 1) (by omega) (Nat.le_refl _)).2]
      exact n1.2.2.2.2.2.1 r (by omega)
  · show V' 3 _ = _
    have hb' : r < sh'.N 3 := hb
    rw [a0 3 (by omega) (by omega) (by omega) (by omega) (by omega), hW3, upd_n _ _ (by omega)]
    exact n1.2.2.2.2.2.2 r (by omega) (by show r < sh.N 3; omega)
  · rw [hV1, r113, n3, cntN, x9, upd_s, decide_eq_true (show (0 : Int32) = 0 from rfl), if_pos rfl, show (1 : Int32) = nI 1 from rfl, nI_add]
    congr 2
    exact cntN_cg R fun r hr => by rw [upd_n _ _ (by omega)]
  · rw [x8, x9]
    by_cases hrR : r = R
    · subst hrR
      rw [upd_s, upd_s]
      exact ⟨⟨M + 1, Nat.le_refl _, rfl⟩, 0, Nat.zero_le _, rfl⟩
    · rw [upd_n _ _ hrR, upd_n _ _ hrR]
      exact hWt.2.2.2 r (by omega)
  · by_cases ha4 : ∃ c, c < 4 ∧ a = 4 * R + c
    · obtain ⟨c, hc, rfl⟩ := ha4
      rw [x7 c hc]
      have := hX c hc
      exact ⟨by omega, by omega⟩
    · rw [x7n a fun c hc e => ha4 ⟨c, hc, e⟩]; exact hFh.1 a ha
  · rw [x16]; exact (hFh.2.1 k (by omega) hb).1
  · rw [xb 18 _ (by omega) fun c' hc' => by omega]; exact (hFh.2.1 k (by omega) hb).2 c hc
  · rw [xn 50 (by omega)]; exact (hFh.2.2 s (by omega) hb).1
  · exact (hFh.2.2 s (by omega) hb).2.ck fun k hk i j => by rw [xn k (by omega)]
  · by_cases hrR : r = R
    · subst hrR
      rw [hlR c _ hc]
      obtain ⟨Y, y1, y2⟩ := xY c hc
      exact BdI.at (fun l hl => y2 l (by omega)) BdI.new
    · obtain ⟨t1, t2⟩ := hE (M + 1) r (M + 1) (by omega) (Nat.le_refl _)
      rw [t2] at ha
      rw [t1 c hc]
      exact hbd _ _ (hBs r (by omega) ha c hc)
  · intro s hs h33 ts hts h27
    rw [p4] at hs
    rw [xn 33 (by omega)] at h33
    rw [xn 27 (by omega)] at h27
    intro r hr ha c hc
    by_cases hrR : r = R
    · rw [hrR, haR ts (by omega), decide_eq_false (by omega)] at ha
      exact Bool.noConfusion ha
    · obtain ⟨t1, t2⟩ := hE M r ts (by omega) hts
      rw [t2] at ha
      rw [t1 c hc]
      exact hbd _ _ (hOp s hs h33 ts hts h27 r (by omega) ha c hc)


