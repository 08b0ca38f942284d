-- deps: a2.simy
/-! questions, taking back -/
theorem RdR.cgv {cm : CM} {sh : Sh} {V W : CV} {R M G P Dn : Nat} (H : RdR cm sh V R M G P Dn) (h : ∀ i, i ≠ 9 → i ≠ 11 → i ≠ 12 → i ≠ 13 → i ≠ 16 → i ≠ 17 → W i = V i) : RdR cm sh W R M G P Dn := by
  obtain ⟨hT, hF, hFs, hL14, hL4, hCe, hCk, hz, e5, v8, e4, hS, e45, v10, hDn, hSc⟩ := H
  have h0 := h 0 (by omega) (by omega) (by omega) (by omega) (by omega) (by omega)
  have hx : ∀ i, 18 ≤ i → W i = V i := fun i hi => h i (by omega) (by omega) (by omega) (by omega) (by omega) (by omega)
  exact ⟨hT, hF.cg fun i h1 h2 => hx i (by omega), FsOk_cg (h 7 (by omega) (by omega) (by omega) (by omega) (by omega) (by omega)) hFs, LsOk_cgv (h 14 (by omega) (by omega) (by omega) (by omega) (by omega) (by omega)) hL14, LsOk_cgv (h 4 (by omega) (by omega) (by omega) (by omega) (by omega) (by omega)) hL4, hCe, fun k hk => (hCk k hk).cg fun i h1 h2 => hx i (by omega), hz, e5, by rw [h0]; exact v8, e4, hS, e45, by rw [h0]; exact v10, hDn, fun s hs => (hSc s hs).sce (fun _ _ _ _ => rfl) TmE.rfl (Nat.le_refl _) (Nat.le_refl _) (fun r t a b => by omega) (fun i h1 h2 => hx i (by omega)) (Nat.le_refl _) (fun _ _ _ => rfl) (Nat.le_refl _)⟩
theorem SR.keep {cm cm' : CM} {cl : CL} {sh : Sh} {V V' : CV} {L : Int64} {M : Nat} (H : SR cm cl sh V L M) (hRd : ∀ R G P Dn, RdR cm sh V R M G P Dn → RdR cm' sh V' R M G P Dn) (hq : ∀ k, k ≠ 26 → k ≠ 31 → k ≠ 32 → k ≠ 35 → k ≠ 36 → k ≠ 44 → k ≠ 49 → cm' k = cm k) (hx : ∀ s k i j, sh.S ≤ s → own s k i j → k ≠ 45 → cm' k i j = cm k i j) (hv : ∀ i, i ≤ 3 ∨ i = 18 → V' i = V i) : SR cm' cl sh V' L M := by
  obtain ⟨R, G, P, Dn, w, W, h1, hP, ⟨m1, m2, m3⟩, ⟨n1, n2, n3, n4, n5⟩, hWt, hFh, hLn, hTc, hBs, hOp, hCl⟩ := H
  have hts := h1.ts
  have hM := h1.1.2.1
  have hq' : ∀ k, k ≤ 25 ∨ (27 ≤ k ∧ k ≤ 30) ∨ (33 ≤ k ∧ k ≤ 34) ∨ (37 ≤ k ∧ k ≤ 43) ∨ k = 50 ∨ k = 45 → cm' k = cm k := fun k hk => hq k (by omega) (by omega) (by omega) (by omega) (by omega) (by omega) (by omega)
  have hE : TmE cm cm' R M := TmE.of fun k hk => hq' k (by omega)
  refine ⟨R, G, P, Dn, w, W, hRd R G P Dn h1, hP, ⟨by rw [hv 0 (by omega)]; exact m1, by rw [hv 0 (by omega)]; exact m2, fun c hc => by rw [hv 18 (by omega)]; exact m3 c hc⟩, ⟨n1.ce hE (Nat.le_refl _) (Nat.le_refl _) (hv 1 (by omega)) (hv 2 (by omega)) (hv 3 (by omega)) rfl rfl, n2, by rw [hv 1 (by omega), hq' 9 (by omega)]; exact n3, n4, n5⟩, hWt.ck fun k hk => hq' k (by omega), ⟨by rw [BOk, hq' 7 (by omega)]; exact hFh.1, fun k a b => by rw [hq' 16 (by omega), hq' 18 (by omega)]; exact hFh.2.1 k a b, fun s a b => ⟨by rw [hq' 50 (by omega)]; exact (hFh.2.2 s a b).1, ?_⟩⟩, hLn.ck fun s hs => ⟨by rw [hq' 29 (by omega)], by rw [hq' 30 (by omega)]⟩, hTc.ck fun k hk => hq' k (by omega), hBs.mono (fun r hr ha => ⟨by rw [← (hE r M hr (Nat.le_refl _)).2]; exact ha, (hE r M hr (Nat.le_refl _)).1⟩) fun a x => BdI.ck fun k hk => hq' k (by omega), hOp.mono hE (fun s _ h => by rw [hq' 33 (by omega)] at h; exact h) (fun s _ => by rw [hq' 27 (by omega)]) hts (by omega) (by omega) fun a x => BdI.ck fun k hk => hq' k (by omega), fun s hs => (hCl s hs).nq fun k hk => hq' k (by omega)⟩
  obtain ⟨p1, p2, p3, p4⟩ := (hFh.2.2 s a b).2
  refine ⟨fun k h1 h2 => ?_, fun p hp => ⟨?_, ?_⟩, fun k hk => ?_, fun g => ⟨?_, ?_, ?_, ?_⟩⟩
  · rw [hx s k 0 s a (by rw [own]; omega) (by omega)]; exact p1 k h1 h2
  · rw [hx s 35 0 _ a (by rw [own]; omega) (by omega)]; exact (p2 p hp).1
  · rw [hx s 36 0 _ a (by rw [own]; omega) (by omega)]; exact (p2 p hp).2
  · rw [hx s 37 0 _ a (by rw [own]; omega) (by omega)]; exact p3 k hk
  · rw [hx s 39 s g a (by rw [own]; omega) (by omega)]; exact (p4 g).1
  · rw [hx s 40 s g a (by rw [own]; omega) (by omega)]; exact (p4 g).2.1
  · rw [hx s 41 s g a (by rw [own]; omega) (by omega)]; exact (p4 g).2.2.1
  · rw [hx s 44 s g a (by rw [own]; omega) (by omega)]; exact (p4 g).2.2.2
/-- a question changes nothing -/
theorem SR.ask {cm cm' : CM} {cl : CL} {sh : Sh} {V V' : CV} {L : Int64} {M : Nat} (H : SR cm cl sh V L M) (h : ∀ k, k ≠ 49 → cm' k = cm k) (hv : ∀ i, i ≠ 9 → i ≠ 11 → i ≠ 12 → i ≠ 13 → i ≠ 16 → i ≠ 17 → V' i = V i) : SR cm' cl sh V' L M :=
  H.keep (fun _ _ _ _ q => (q.c49 h).cgv hv) (fun k _ _ _ _ _ _ h9 => h k h9) (fun s k i j _ ho _ => by rw [h k (by rw [own] at ho; omega)]) fun i hi => hv i (by omega) (by omega) (by omega) (by omega) (by omega) (by omega)
theorem SR.c49 {cm cm' : CM} {cl : CL} {sh : Sh} {V : CV} {L : Int64} {M : Nat} (H : SR cm cl sh V L M) (h : ∀ k, k ≠ 49 → cm' k = cm k) : SR cm' cl sh V L M := H.ask h fun _ _ _ _ _ _ _ => rfl
theorem SR.th {cm : CM} {cl : CL} {sh : Sh} {V : CV} {L : Int64} {M : Nat} (H : SR cm cl sh V L M) (b : Bool) (k : Int32) : SR (thr cm b k) cl sh V L M := H.c49 fun _ h => thr_nq h
theorem tbC_X {s : Nat} {l : Int32} : ∀ n {cm0 cm : CM}, FrX s cm0 cm → FrX s cm0 (tbC s l n cm)
  | 0, _, _, h => h
  | n + 1, _, _, h => by
    rw [tbC]
    split
    · exact tbC_X n (sp_X h)
    · exact h
theorem tbC_q {s k : Nat} {l : Int32} (h1 : k ≠ 31) (h2 : k ≠ 35) (h3 : k ≠ 36) (h4 : k ≠ 44) : ∀ n (cm : CM), tbC s l n cm k = cm k
  | 0, _ => rfl
  | n + 1, cm => by
    rw [tbC]
    split
    · rw [tbC_q h1 h2 h3 h4 n, spC_n h1 h2 h3 h4]
    · rfl
theorem tb_SR {cm : CM} {cl : CL} {sh : Sh} {V : CV} {L : Int64} {M s z : Nat} (H : SR cm cl sh V L M) (hs : s < sh.S) (hz : 1 ≤ z) (hz6 : z ≤ 6) : SR (tbC s (2 * nI z) 5 (c3 cm 26 0 s (nI z))) cl sh (paU (400 + 20 * s + 6) (2 * nI z) 4 (c2 V (400 + 20 * s + 6) 2 (nI z))) L M := by
  refine H.keep (fun _ _ _ _ q => (tb_R q hs hz hz6).1) (fun k a b c d e f _ => by rw [tbC_q b d e f, c3_n a]) (fun q k i j hq ho h45 => ?_) (fun i hi => by rw [paU_n (by omega) (by omega) (by omega), c2_n _ _ _ (by omega)])
  have hX : FrX s cm (tbC s (2 * nI z) 5 (c3 cm 26 0 s (nI z))) := tbC_X 5 (FrX.rfl.c3 (by rw [own]; omega))
  exact hX k i j (by rw [own] at ho ⊢; omega)


