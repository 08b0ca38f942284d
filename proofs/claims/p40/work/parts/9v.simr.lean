-- deps: 9u.simq
/-! single cells -/
theorem c3_o {cm : CM} {k i j k' i' j' : Nat} {x : Int32} (h : j' ≠ j) : c3 cm k i j x k' i' j' = cm k' i' j' := by
  by_cases hk : k' = k
  · subst hk
    by_cases hi : i' = i
    · subst hi; rw [c3_s, upd_n _ _ h]
    · rw [c3_i hi]
  · rw [c3_n hk]
theorem c2_o {V : CV} {i k i' k' : Nat} {x : Int32} (h : i' ≠ i ∨ k' ≠ k) : c2 V i k x i' k' = V i' k' := by
  by_cases hi : i' = i
  · subst hi; rw [c2_s, upd_n _ _ (h.resolve_left fun q => q rfl)]
  · rw [c2_n _ _ _ hi]
theorem c2_e {V : CV} {i k : Nat} {x : Int32} : c2 V i k x i k = x := by rw [c2_s, upd_s]
theorem imin_le {a b : Int32} : (imin a b).toInt ≤ a.toInt ∧ (imin a b).toInt ≤ b.toInt ∧ (imin a b = a ∨ imin a b = b) := by
  rw [imin]
  split <;> rename_i h <;> rw [i32_lt] at h
  · exact ⟨by omega, by omega, .inr rfl⟩
  · exact ⟨by omega, by omega, .inl rfl⟩
theorem imax_le {a b : Int32} : a.toInt ≤ (imax a b).toInt ∧ b.toInt ≤ (imax a b).toInt ∧ (imax a b = a ∨ imax a b = b) := by
  rw [imax]
  split <;> rename_i h <;> rw [i32_lt] at h
  · exact ⟨by omega, by omega, .inr rfl⟩
  · exact ⟨by omega, by omega, .inl rfl⟩
/-! bounds take a number in -/
theorem wdC_o {cm : CM} {r c k i a : Nat} {v : Int32} (h : a ≠ 4 * (r / 16) + c) : wdC cm r c v k i a = cm k i a := by
  rw [wdC]
  split
  · rw [c3_o h]
  · rw [c3_o h, c3_o h, c3_o h]
theorem wdC_5 {cm : CM} {r c : Nat} : wdC cm r c 5000 18 0 (4 * (r / 16) + c) = 1 ∧ ∀ k, k ≠ 18 → wdC cm r c 5000 k = cm k := by
  rw [wdC, if_pos rfl]
  exact ⟨by rw [c3_s, upd_s], fun k hk => by rw [c3_n hk]⟩
theorem wdC_v {cm : CM} {r c : Nat} {v : Int32} (hv : ¬ v = 5000) : wdC cm r c v 14 0 (4 * (r / 16) + c) = (if cm 17 0 (4 * (r / 16) + c) = 0 then v else imin (cm 14 0 (4 * (r / 16) + c)) v) ∧ wdC cm r c v 15 0 (4 * (r / 16) + c) = (if cm 17 0 (4 * (r / 16) + c) = 0 then v else imax (cm 15 0 (4 * (r / 16) + c)) v) ∧ wdC cm r c v 17 0 (4 * (r / 16) + c) = 1 ∧ ∀ k, k ≠ 14 → k ≠ 15 → k ≠ 17 → wdC cm r c v k = cm k := by
  rw [wdC, if_neg hv]
  refine ⟨?_, ?_, ?_, fun k h1 h2 h3 => ?_⟩
  · rw [c3_n (by decide), c3_n (by decide), c3_s, upd_s]
  · rw [c3_n (by decide), c3_s, upd_s]
  · rw [c3_s, upd_s]
  · rw [c3_n h3, c3_n h2, c3_n h1]
theorem bAd_o {V : CV} {o c i c' : Nat} {v : Int32} (h : c' ≠ c ∨ (i ≠ o + 1 ∧ i ≠ o + 2 ∧ i ≠ o + 3)) : bAd V o c v i c' = V i c' := by
  rw [bAd]
  split
  · rw [c2_o (by omega)]
  · rw [c2_o (by omega), c2_o (by omega)]
theorem bAd_nn {V : CV} {o c i : Nat} {v : Int32} (h1 : i ≠ o + 1) (h2 : i ≠ o + 2) (h3 : i ≠ o + 3) : bAd V o c v i = V i := funext fun k => bAd_o (.inr ⟨h1, h2, h3⟩)
theorem bAd_ck {V W : CV} {o c i k : Nat} {v : Int32} (h : ∀ l, (l = 1 ∨ l = 2 ∨ l = 3) → W (o + l) = V (o + l)) (hi : i = 1 ∨ i = 2 ∨ i = 3) : bAd W o c v (o + i) k = bAd V o c v (o + i) k := by
  rw [bAd, bAd, h 1 (by omega), h 2 (by omega)]
  split
  · rcases hi with rfl | rfl | rfl
    · rw [c2_o (.inl (by omega)), c2_o (.inl (by omega)), h 1 (by omega)]
    · rw [c2_o (.inl (by omega)), c2_o (.inl (by omega)), h 2 (by omega)]
    · rw [c2_s, c2_s, h 3 (by omega)]
  · rcases hi with rfl | rfl | rfl
    · rw [c2_o (.inl (by omega)), c2_s, c2_o (.inl (by omega)), c2_s, h 1 (by omega)]
    · rw [c2_s, c2_s, c2_n _ _ _ (by omega), c2_n _ _ _ (by omega), h 2 (by omega)]
    · rw [c2_o (.inl (by omega)), c2_o (.inl (by omega)), c2_o (.inl (by omega)), c2_o (.inl (by omega)), h 3 (by omega)]
theorem BdS1.ck {cm cm' : CM} {V W : CV} {q k c : Nat} (H : BdS1 cm V q k c) (h : ∀ l, 14 ≤ l ∧ l ≤ 18 ∧ l ≠ 16 → cm' l 0 (4 * k + c) = cm l 0 (4 * k + c)) (h1 : W (q + 1) c = V (q + 1) c) (h2 : W (q + 2) c = V (q + 2) c) (h3 : W (q + 3) c = V (q + 3) c) : BdS1 cm' W q k c := by
  rw [BdS1] at H ⊢
  rw [h 14 (by omega), h 15 (by omega), h 17 (by omega), h 18 (by omega), h1, h2, h3]
  exact H
theorem mp_n {v : Int32} (hv : vl v) (h5 : ¬ v = 5000) : mp v = v ∧ ¬ v = -1000 ∧ -999 ≤ v.toInt ∧ v.toInt ≤ 999 := by
  have h := hv.resolve_left h5
  refine ⟨if_neg h5, fun e => ?_, h⟩
  rw [i32_eq] at e
  have t2 : (-1000 : Int32).toInt = -1000 := by decide
  omega
theorem bd_ad {cm : CM} {V : CV} {q r c c' : Nat} {v : Int32} (H : BdS1 cm V q (r / 16) c') (hv : vl v) : BdS1 (wdC cm r c v) (bAd V q c (mp v)) q (r / 16) c' := by
  by_cases hcc : c' = c
  · subst hcc
    obtain ⟨b1, b2, b3, b4, b5⟩ := H
    by_cases h5 : v = 5000
    · subst h5
      obtain ⟨w1, w2⟩ := wdC_5 (cm := cm) (r := r) (c := c')
      have em : mp 5000 = -1000 := rfl
      rw [em, bAd, if_pos rfl, BdS1, w1, w2 17 (by decide), w2 14 (by decide), w2 15 (by decide), c2_e, c2_o (by omega), c2_o (by omega)]
      exact ⟨b1, .inr rfl, rfl, b4, b5⟩
    · obtain ⟨w1, w2, w3, w4⟩ := wdC_v (cm := cm) (r := r) (c := c') h5
      obtain ⟨m1, m2, m3, m4⟩ := mp_n hv h5
      have t1 : (1000 : Int32).toInt = 1000 := by decide
      have t2 : (-1000 : Int32).toInt = -1000 := by decide
      rw [m1, bAd, if_neg m2, BdS1, w1, w2, w3, w4 18 (by decide) (by decide) (by decide), c2_o (i' := q + 3) (by omega), c2_o (i' := q + 3) (by omega), c2_o (i' := q + 1) (by omega), c2_e, c2_e]
      refine ⟨.inr rfl, b2, b3, fun h => absurd h (by decide), fun _ => ?_⟩
      by_cases h7 : cm 17 0 (4 * (r / 16) + c') = 0
      · obtain ⟨e1, e2⟩ := b4 h7
        rw [e1, e2, if_pos h7, if_pos h7, show imin 1000 v = v by rw [imin, if_pos (i32_lt.mpr (by omega))], show imax (-1000) v = v by rw [imax, if_pos (i32_lt.mpr (by omega))]]
        exact ⟨rfl, rfl, by omega, by omega, by omega⟩
      · obtain ⟨e1, e2, e3, e4, e5⟩ := b5 h7
        rw [e1, e2, if_neg h7, if_neg h7]
        obtain ⟨i1, i2, i3⟩ := @imin_le (cm 14 0 (4 * (r / 16) + c')) v
        obtain ⟨j1, j2, j3⟩ := @imax_le (cm 15 0 (4 * (r / 16) + c')) v
        refine ⟨rfl, rfl, ?_, by omega, ?_⟩
        · rcases i3 with h | h <;> rw [h] <;> omega
        · rcases j3 with h | h <;> rw [h] <;> omega
  · exact H.ck (fun l _ => wdC_o (by omega)) (bAd_o (.inl hcc)) (bAd_o (.inl hcc)) (bAd_o (.inl hcc))
theorem BdI.wd {cm : CM} {a r c : Nat} {v x : Int32} (H : BdI cm a x) : BdI (wdC cm r c v) a x := by
  by_cases ha : a = 4 * (r / 16) + c
  · subst ha
    by_cases h5 : v = 5000
    · subst h5
      obtain ⟨w1, w2⟩ := wdC_5 (cm := cm) (r := r) (c := c)
      rw [BdI, w1, w2 17 (by decide), w2 14 (by decide), w2 15 (by decide)]
      rcases H with ⟨h1, h2⟩ | h
      · exact .inl ⟨h1, by decide⟩
      · exact .inr h
    · obtain ⟨w1, w2, w3, w4⟩ := wdC_v (cm := cm) (r := r) (c := c) h5
      rw [BdI, w1, w2, w3, w4 18 (by decide) (by decide) (by decide)]
      rcases H with h | ⟨h1, h2, h3, h4⟩
      · exact .inl h
      · rw [if_neg h2, if_neg h2]
        have i1 := (@imin_le (cm 14 0 (4 * (r / 16) + c)) v).1
        have j1 := (@imax_le (cm 15 0 (4 * (r / 16) + c)) v).1
        exact .inr ⟨h1, by decide, by omega, by omega⟩
  · rw [BdI, wdC_o ha, wdC_o ha, wdC_o ha, wdC_o ha]; exact H
theorem BdI.new {cm : CM} {r c : Nat} {v : Int32} : BdI (wdC cm r c v) (4 * (r / 16) + c) v := by
  by_cases h5 : v = 5000
  · subst h5
    exact .inl ⟨rfl, by rw [wdC_5.1]; decide⟩
  · obtain ⟨w1, w2, w3, w4⟩ := wdC_v (cm := cm) (r := r) (c := c) h5
    refine .inr ⟨h5, by rw [w3]; decide, ?_, ?_⟩
    · rw [w1]; split
      · exact Int.le_refl _
      · exact imin_le.2.1
    · rw [w2]; split
      · exact Int.le_refl _
      · exact imax_le.2.1
/-! the scans, when something is written -/
theorem RdR.sc {cm : CM} {sh : Sh} {V : CV} {R M G P Dn s : Nat} (H : RdR cm sh V R M G P Dn) (hs : s < sh.S) : ∃ j ts, j < sh.F ∧ cm 23 0 s = nI j ∧ (cm 24 0 s = -1 ∨ ∃ c, c < 4 ∧ cm 24 0 s = nI c) ∧ (∃ c, c < 4 ∧ cm 25 0 s = nI c) ∧ cm 27 0 s = nI ts ∧ ts ≤ M ∧ V (400 + 20 * s) 3 = nI ts := by
  obtain ⟨-, -, -, -, -, -, -, -, -, -, -, -, -, -, -, hSc⟩ := H
  obtain ⟨j, ns, ts, x, y, ⟨a1, a2, a3, a4, a5, a6, a7, a8, a9, b1, b2, b3, b4, b5, b6, b7⟩, h2, -⟩ := hSc s hs
  exact ⟨j, ts, a1, a3, a5, a7, a9, h2, a8⟩
theorem scans_ok {cm cm' : CM} {sh sh' : Sh} {V W : CV} {R R' M M' G P Dn S : Nat} (H : RdR cm sh V R M G P Dn) (hC : ∀ s, s < sh.S → ClG cm s R) (hS : S ≤ sh.S) (h : ∀ s, s < S → ScE s cm cm') (hT : TmE cm cm' R M) (e : ∀ k j, 19 ≤ k → k ≤ 21 → j < sh.F → cm' k 0 j = cm k 0 j) (hR : R ≤ R') (hM : M ≤ M') (hd : ∀ r t, R ≤ r → r < R' → t ≤ M → aliveM cm' r (nI t) = false)
    (hv : ∀ i, 400 ≤ i → i < 400 + 20 * S → W i = V i) (hF : sh.F ≤ sh'.F) (hN : ∀ i, 400 ≤ i → i < 400 + 20 * S → sh'.N i = sh.N i) : ∀ s, s < S → ScG cm' sh' W R' M' s Dn ∧ ClG cm' s R' := by
  intro s hs
  obtain ⟨j, ts, g1, g2, g3, g4, g5, g6, -⟩ := H.sc (s := s) (by omega)
  have hR160 := H.1.1
  have hFR := H.2.1
  obtain ⟨-, -, -, -, -, -, -, -, -, -, -, -, -, -, -, hSc⟩ := H
  exact ⟨(hSc s (by omega)).sce (h s hs) hT hR hM hd (fun i _ _ => hv i (by omega) (by omega)) hF (fun i _ _ => hN i (by omega) (by omega)) (Nat.le_refl _), (hC s (by omega)).ck (h s hs) hFR e ⟨j, g1, g2⟩ g3 g4 g5 g6 hR160 hT hR hd⟩
theorem ScE.of {s : Nat} {cm cm' : CM} (h : ∀ k, (23 ≤ k ∧ k ≤ 44) ∨ k = 51 → cm' k = cm k) : ScE s cm cm' := fun k i j hk => by rw [h k (by rw [scn] at hk; omega)]
theorem RdR.ts {cm : CM} {sh : Sh} {V : CV} {R M G P Dn : Nat} (H : RdR cm sh V R M G P Dn) : ∀ s, s < sh.S → ∃ ts, ts ≤ M ∧ cm 27 0 s = nI ts := fun s hs => by
  obtain ⟨j, ts, -, -, -, -, a, b, -⟩ := H.sc hs
  exact ⟨ts, b, a⟩


