-- deps: a6.simC
/-! load: all that both sides keep -/
theorem nI_ps {x : Int32} (h : 0 ≤ x.toInt) : ∃ n : Nat, x = nI n ∧ (n : Int) = x.toInt := by
  have h2 := Int32.toInt_lt x
  refine ⟨x.toInt.toNat, ?_, by omega⟩
  rw [i32_eq, nI_ti (by omega)]; omega
theorem nI_dv {a b : Nat} (ha : a < 2147483648) (hb : b < 2147483648) : nI a / nI b = nI (a / b) := by
  have hd : a / b ≤ a := Nat.div_le_self a b
  apply Int32.toInt_inj.mp
  rw [Int32.toInt_div, nI_ti ha, nI_ti hb, nI_ti (by omega), Int.tdiv_eq_ediv_of_nonneg (by omega)]
  have e : (a : Int) / (b : Int) = ((a / b : Nat) : Int) := (Int.natCast_ediv a b).symm
  rw [e]
  generalize a / b = q at *
  rw [Int.bmod_eq_of_le (by omega) (by omega)]
theorem nI_ml (a b : Nat) : nI a * nI b = nI (a * b) := (Int32.ofNat_mul a b).symm
theorem nI_rm {a b : Nat} (ha : a < 1000000) (hb : 0 < b) (hb2 : b < 1000) : nI a - nI a / nI b * nI b = nI (a % b) := by
  rw [nI_dv (by omega) (by omega), nI_ml, nI_sub (Nat.div_mul_le_self a b)]
  congr 1
  have := Nat.div_add_mod a b
  have e : a / b * b = b * (a / b) := Nat.mul_comm _ _
  omega
theorem rowX_ok {x : Int32} {p i : Nat} (hx : x = nI p) (hp : p ≤ 998) (hi : i < 40) : ∀ c, c < 4 → -999 ≤ (rowX x i c).toInt ∧ (rowX x i c).toInt ≤ 999 := by
  intro c hc
  have key : ∃ q, q ≤ 999 ∧ rowX x i c = nI q := by
    subst hx
    rw [rowX]
    rcases (show c = 0 ∨ c = 1 ∨ c = 2 ∨ c = 3 by omega) with rfl | rfl | rfl | rfl
    · exact ⟨p, by omega, by rw [if_pos rfl]⟩
    · have h : p * p ≤ 998 * 998 := Nat.mul_le_mul hp hp
      refine ⟨p * p % 37, by omega, ?_⟩
      rw [if_neg (by decide), if_pos rfl, nI_ml]
      exact nI_rm (b := 37) (by omega) (by omega) (by omega)
    · refine ⟨i / 4, by omega, ?_⟩
      rw [if_neg (by decide), if_neg (by decide), if_pos rfl]
      exact nI_dv (b := 4) (by omega) (by omega)
    · refine ⟨p % 3, by omega, ?_⟩
      rw [if_neg (by decide), if_neg (by decide), if_neg (by decide)]
      exact nI_rm (b := 3) (by omega) (by omega) (by omega)
  obtain ⟨q, hq, e⟩ := key
  rw [e, nI_ti (by omega)]
  omega
theorem SR.lr {cm : CM} {cl : CL} {sh : Sh} {V : CV} {L : Int64} {M R G P Dn w : Nat} {W : Nat → Nat} (hM : M < 1000) (hRd : RdR cm sh V R M G P Dn) (hNw : NwS cm sh V R M) (hWt : WtS cm R M G w W) (hFh : FhS cm sh) (hBs : BsS cm R M) (hOp : OpB cm sh.S R M) (hCl : ∀ s, s < sh.S → ClG cm s R) : LrI (c3 cm 1 0 0 (cm 1 0 0 + 1)) sh V R M G P Dn W := by
  have hts := hRd.ts
  obtain ⟨hT, hF, hFs, hL14, hL4, hCe, hCk, hz, e5, v8, e4, hS, e45, v10, hDn, hSc⟩ := id hRd
  obtain ⟨hR, hM1, hG, h0, h1, h2, hTL, hTA⟩ := id hT
  obtain ⟨n1, n2, n3, n4, n5⟩ := hNw
  have e1 : c3 cm 1 0 0 (cm 1 0 0 + 1) 1 0 0 = nI (M + 1) := by rw [c3_s, upd_s, h1]; exact nI_add M 1
  have eF : ∀ k, k ≠ 1 → c3 cm 1 0 0 (cm 1 0 0 + 1) k = cm k := fun k hk => c3_n hk
  generalize c3 cm 1 0 0 (cm 1 0 0 + 1) = c at *
  have hE : ∀ T, TmE cm c R T := fun T => TmE.of fun k hk => eF k (by omega)
  have hT' : TmR c R (M + 1) G := by
    refine ⟨hR, by omega, by omega, by rw [eF 0 (by omega)]; exact h0, e1, by rw [eF 2 (by omega)]; exact h2, fun k hk => ?_, fun r hr => ?_⟩
    · rw [eF 13 (by omega), eF 12 (by omega), eF 10 (by omega)]
      obtain ⟨⟨a, p1, p2⟩, p3⟩ := hTL k hk
      exact ⟨⟨a, by omega, p2⟩, p3⟩
    · rw [eF 8 (by omega), eF 9 (by omega), eF 6 (by omega)]
      obtain ⟨⟨a, p1, p2⟩, ⟨b, p3, p4⟩, p5⟩ := hTA r hr
      exact ⟨⟨a, by omega, p2⟩, ⟨b, by omega, p4⟩, p5⟩
  have hlk : ∀ r k, r < R → k < 4 → lk c r k (nI (M + 1)) = lk cm r k (nI M) := fun r k hr hk => by
    rw [(hE (M + 1) r (M + 1) hr (Nat.le_refl _)).1 k hk, lk_M hT (Nat.le_refl _) (Nat.le_succ _) (by omega) (by omega)]
  have hal : ∀ r, r < R → aliveM c r (nI (M + 1)) = aliveM cm r (nI M) := fun r hr => by
    rw [alive_M hT' hr, eF 9 (by omega), alive_M hT hr]
  have hbd : ∀ a v, BdI cm a v → BdI c a v := fun a v => BdI.ck fun k hk => eF k (by omega)
  refine ⟨hT', hF.cm fun k hk => eF k (by omega), hFs, hL14, hL4, hCe, fun k hk => ?_, by rw [eF 17 (by omega)]; exact hz, by rw [eF 5 (by omega)]; exact e5, v8, by rw [eF 4 (by omega)]; exact e4, hS, by rw [eF 45 (by omega)]; exact e45, v10, by rw [eF 33 (by omega)]; exact hDn, fun s hs => ?_, ⟨?_, n2, by rw [eF 9 (by omega)]; exact n3, n4, n5⟩, ⟨Nat.le_refl _, fun x hx => by have := hWt.2.1 x hx; omega, by rw [eF 11 (by omega), eF 13 (by omega)]; exact hWt.2.2.1, fun r hr => ?_⟩, hFh.ck fun k hk => eF k (by omega), fun r hr ha x hx => ?_, ?_⟩
  · have hc := hCk k hk
    rw [CkS] at hc ⊢
    simp only [BdS1, bv, eF 7 (by omega), eF 14 (by omega), eF 15 (by omega), eF 16 (by omega), eF 17 (by omega), eF 18 (by omega)] at hc ⊢
    exact hc
  · exact scan1 hF hR (hSc s hs) (hCl s hs) (ScE.of fun k hk => eF k (by omega)) (hE M) (fun k j h1 h2 _ => by rw [eF k (by omega)]) (Nat.le_refl _) (Nat.le_refl _) (fun r t a b => by omega) (fun _ _ => rfl) (Nat.le_refl _) (fun _ _ => rfl)
  · obtain ⟨w1, w2, w3, w4, w5, w6, w7⟩ := n1
    exact ⟨w1, w2, w3, w4, fun r x hr hx => by rw [hlk r x hr hx]; exact w5 r x hr hx, fun r hr => by rw [hal r hr]; exact w6 r hr, w7⟩
  · rw [eF 8 (by omega), eF 9 (by omega)]
    obtain ⟨⟨a, p1, p2⟩, b, p3, p4⟩ := hWt.2.2.2 r hr
    have := hWt.1
    exact ⟨⟨a, by omega, p2⟩, b, by omega, p4⟩
  · rw [hal r hr] at ha
    rw [hlk r x hr hx]
    exact hbd _ _ (hBs r hr ha x hx)
  · exact hOp.mono (hE M) (fun s _ h => by rw [eF 33 (by omega)] at h; exact h) (fun s _ => by rw [eF 27 (by omega)]) hts (by omega) (by omega) hbd
theorem ld_rows {cm : CM} {sh : Sh} {V : CV} {R M G P Dn z0 : Nat} {W : Nat → Nat} {x y z : Int32} (H : LrI cm sh V R M G P Dn W) (hz : z = nI z0) (hz1 : 1 ≤ z0) (hz9 : z0 ≤ 999) : ∀ i, i ≤ 40 → R + i ≤ 160 →
    LrI (ldC cm x y z i) (ldP x y z i (sh, V)).1 (ldP x y z i (sh, V)).2 (R + i) M G P Dn W ∧ (ldP x y z i (sh, V)).1.S = sh.S ∧ (∀ k, (ldP x y z i (sh, V)).2 0 k = V 0 k) ∧ (ldP x y z i (sh, V)).2 18 = V 18 := by
  intro i
  induction i with
  | zero => intro _ _; exact ⟨H, rfl, fun _ => rfl, rfl⟩
  | succ i ih =>
    intro hi hR
    obtain ⟨i1, i2, i3, i4⟩ := ih (by omega) (by omega)
    rw [ldC, ldP]
    generalize ldC cm x y z i = c at *
    generalize ldP x y z i (sh, V) = u at *
    have h0 := i1.1.2.2.2.1
    have h1 := i1.1.2.2.2.2.1
    have e12 : nn (u.2 1 2) = R + i := by
      obtain ⟨-, -, -, -, -, -, -, -, -, -, -, -, -, -, -, -, ⟨n1, -⟩, -⟩ := i1
      rw [n1.1, nn_nI (by omega)]
    rw [e12, h0, nn_nI (by omega)]
    obtain ⟨p, hp, ep, -⟩ := flm_nI (x + nI i * y) (m := z0) (by omega) (by omega)
    rw [← hz] at ep
    obtain ⟨j1, j2, j3, j4⟩ := ld_row (i := i) (x := flm (x + nI i * y) z) i1 (by omega) (ld_X h0 (by omega) h1) (rowX_ok ep (by omega) (by omega)) rfl
    exact ⟨j1, j2.trans i2, fun k => (j3 k).trans (i3 k), j4.trans i4⟩
theorem ld_R {cm : CM} {cl : CL} {sh : Sh} {V : CV} {L : Int64} {M m z0 : Nat} {x y z : Int32} (H : SR cm cl sh V L M) (hM : M < 1000) (hz : z = nI z0) (hz1 : 1 ≤ z0) (hz9 : z0 ≤ 999) (hm : m ≤ 40) (hR : nn (V 1 2) + m ≤ 160) :
    SR (tchC (ldC (c3 cm 1 0 0 (cm 1 0 0 + 1)) x y z m) (-1)) cl (ldP x y z m (sh, V)).1 (ldE (ldP x y z m (sh, V)).2) L (M + 1) := by
  obtain ⟨R, G, P, Dn, w, W, hRd, hP, ⟨m1, m2, m3⟩, hNw, hWt, hFh, hLn, hTc, hBs, hOp, hCl⟩ := H
  have hR' : nn (V 1 2) = R := by rw [hNw.1.1, nn_nI (by have := hRd.1.1; omega)]
  rw [hR'] at hR
  have hts := hRd.ts
  have hCe0 : sh.C = (R + 15) / 16 := hRd.2.2.2.2.2.1
  have e40 : cm 4 0 0 = nI sh.S ∧ sh.S ≤ 40 := by
    obtain ⟨-, -, -, -, -, -, -, -, -, -, e4, hS, -⟩ := hRd
    exact ⟨e4, hS⟩
  obtain ⟨⟨hT, hF, hFs, hL14, hL4, hCe, hCk, hz', e5, v8, e4, hS, e45, v10, hDn, hSc, ⟨n1, n2, n3, n4, n5⟩, hWt', hFh', hBs', hOp'⟩, eS, eV0, eV18⟩ := ld_rows (x := x) (y := y) (SR.lr (cl := cl) (L := L) hM hRd hNw hWt hFh hBs hOp hCl) hz hz1 hz9 m hm hR
  have eK : ∀ k, (2 ≤ k ∧ k ≤ 5) ∨ (10 ≤ k ∧ k ≤ 13) ∨ k = 16 ∨ 19 ≤ k → ldC (c3 cm 1 0 0 (cm 1 0 0 + 1)) x y z m k = cm k := fun k hk => by rw [ldC_n (by omega) (by omega) (by omega) (by omega) (by omega) (by omega) (by omega) (by omega) (by omega), c3_n (by omega)]
  generalize ldC (c3 cm 1 0 0 (cm 1 0 0 + 1)) x y z m = c at *
  generalize ldP x y z m (sh, V) = u at *
  obtain ⟨sh', V2⟩ := u
  simp only at *
  have eT : ∀ k, k ≠ 50 → tchC c (-1) k = c k := fun k hk => tchC_n hk
  have t50 : ∀ s, s < sh.S → tchC c (-1) 50 0 s = cm 50 0 s ||| b2i true := fun s hs => by
    rw [tchC, eK 4 (by omega), e40.1, nn_nI (by omega), rowU_lt hs, tchF, eK 50 (by omega), tchB]; rfl
  have t50' : ∀ s, sh.S ≤ s → tchC c (-1) 50 0 s = cm 50 0 s := fun s hs => by
    rw [tchC, eK 4 (by omega), e40.1, nn_nI (by omega), rowU_ge hs, eK 50 (by omega)]
  have hE : TmE c (tchC c (-1)) (R + m) (M + 1) := TmE.of fun k hk => eT k (by omega)
  have hE' : TmE c (tchC c (-1)) (R + m) M := TmE.of fun k hk => eT k (by omega)
  have hV : ∀ i, i ≠ 0 → ldE V2 i = V2 i := fun i hi => by rw [ldE, c2_n _ _ _ hi, c2_n _ _ _ hi]
  have hV0 : ∀ k, k ≠ 6 → k ≠ 7 → ldE V2 0 k = V2 0 k := fun k h6 h7 => by rw [ldE, c2_o (.inr h6), c2_o (.inr h7)]
  have hV7 : ldE V2 0 7 = nI (M + 1) := by rw [ldE, c2_o (.inr (by decide)), c2_e, eV0, m1]; exact nI_add M 1
  have hV6 : ldE V2 0 6 = nI (M + 1) := by rw [ldE, c2_e, eV0, m1]; exact nI_add M 1
  have hbd : ∀ a v, BdI c a v → BdI (tchC c (-1)) a v := fun a v => BdI.ck fun k hk => eT k (by omega)
  have hsc : ∀ s, s < sh'.S → ScG (tchC c (-1)) sh' (ldE V2) (R + m) (M + 1) s Dn ∧ ClG (tchC c (-1)) s (R + m) := fun s hs =>
    scan1 hF hR (hSc s hs).1 (hSc s hs).2 (ScE.of fun k hk => eT k (by omega)) hE' (fun k j h1 h2 _ => by rw [eT k (by omega)]) (Nat.le_refl _) (Nat.le_succ _) (fun r t a b => by omega) (fun i hi => hV i (by omega)) (Nat.le_refl _) (fun _ _ => rfl)
  generalize tchC c (-1) = c' at *
  generalize ldE V2 = V' at *
  refine ⟨R + m, G, P, Dn, M + 1, W, ⟨hT.ck fun k hk => eT k (by omega), (hF.cm fun k hk => eT k (by omega)).cg fun i h1 h2 => hV i (by omega), FsOk_cg (hV 7 (by omega)) hFs, LsOk_cgv (hV 14 (by omega)) hL14, LsOk_cgv (hV 4 (by omega)) hL4, hCe, fun k hk => ?_, by rw [eT 17 (by omega)]; exact hz', by rw [eT 5 (by omega)]; exact e5, by rw [hV0 8 (by omega) (by omega)]; exact v8, by rw [eT 4 (by omega)]; exact e4, hS, by rw [eT 45 (by omega)]; exact e45, by rw [hV0 10 (by omega) (by omega)]; exact v10, by rw [eT 33 (by omega)]; exact hDn, fun s hs => (hsc s hs).1⟩, ⟨hP.1, by have := hP.2.1; omega, by rw [eS]; exact hP.2.2⟩, ⟨hV7, hV6, fun x hx => by rw [hV 18 (by omega), eV18]; exact m3 x hx⟩, ⟨n1.ce hE (Nat.le_refl _) (Nat.le_refl _) (hV 1 (by omega)) (hV 2 (by omega)) (hV 3 (by omega)) rfl rfl, n2, by rw [hV 1 (by omega), eT 9 (by omega)]; exact n3, n4, n5⟩, hWt'.ck fun k hk => eT k (by omega), ⟨by rw [BOk, eT 7 (by omega)]; exact hFh'.1, by rw [eT 16 (by omega), eT 18 (by omega)]; exact hFh'.2.1, fun s ha hb => ⟨?_, (hFh'.2.2 s ha hb).2.ck fun k hk i j => by rw [eT k (by omega)]⟩⟩, ?_, fun s hs => ?_, ?_, ?_, fun s hs => (hsc s hs).2⟩
  · have hc := (hCk k hk).cg (W := V') fun i h1 h2 => hV i (by omega)
    rw [CkS] at hc ⊢
    simp only [BdS1, bv, eT 7 (by omega), eT 14 (by omega), eT 15 (by omega), eT 16 (by omega), eT 17 (by omega), eT 18 (by omega)] at hc ⊢
    exact hc
  · rw [t50' s (by omega), ← eK 50 (by omega)]; exact (hFh'.2.2 s ha hb).1
  · rw [eS]
    exact hLn.ck fun s hs => ⟨by rw [eT 29 (by omega), eK 29 (by omega)], by rw [eT 30 (by omega), eK 30 (by omega)]⟩
  · rw [eS] at hs
    obtain ⟨ts, t1, t2, t3, t4⟩ := hTc s hs
    obtain ⟨o1, o2⟩ := or_b01 t3 true
    refine ⟨ts, by omega, by rw [eT 27 (by omega), eK 27 (by omega)]; exact t2, by rw [t50 s hs]; exact o1, ?_⟩
    rw [t50 s hs, o2]
    exact ⟨fun h => Bool.noConfusion h.2, fun h => by omega⟩
  · exact hBs'.mono (fun r hr ha => ⟨by rw [← (hE r (M + 1) hr (Nat.le_refl _)).2]; exact ha, (hE r (M + 1) hr (Nat.le_refl _)).1⟩) hbd
  · refine hOp'.mono hE' (fun s _ h => by rw [eT 33 (by omega)] at h; exact h) (fun s _ => by rw [eT 27 (by omega)]) (fun s hs => ?_) (by omega) (by omega) hbd
    rw [eS] at hs
    obtain ⟨ts, t1, t2⟩ := hts s hs
    exact ⟨ts, t1, by rw [eK 27 (by omega)]; exact t2⟩


