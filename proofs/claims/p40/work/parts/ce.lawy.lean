-- deps: cd.lawv
/-! ===== calls that are refused, calls that must go through ===== -/
theorem GS.r49 {g : GG} {f : AH} {o : Nat} {O : AH} {cm cm' : CM} {M S F : Nat} (H : GS g f o O cm' M S F) (h : ∀ k, k ≠ 49 → cm' k = cm k) : GS g f o O cm M S F := by
  obtain ⟨ad, sh, V, L, cl, e, hC, hS, r⟩ := H
  exact ⟨ad, sh, V, L, cl, e, hC, hS.c49 fun k hk => (h k hk).symm, r⟩
theorem vat_N {cm : CM} {R M G r c : Nat} {F : Nat → Int32} (hT : TmR cm R M G) (h : NetN cm R M F) (hr : r < R) (hc : c < 4) : ans ((vatM cm (nI r) (nI c)).2 49 0 0) (vatM cm (nI r) (nI c)).1 = if F (800 + r) = 1 ∨ F (100 + 4 * r + c) = 5000 then -900002 else F (100 + 4 * r + c) := by
  have hR := hT.1
  have e : lk (thr cm false 1) r c (nI M) = lk cm r c (nI M) := lk_ck (fun k hk => thr_nq (by omega)) r c _
  rw [vatM, noCell_x hT.2.2.2.1 hR hr hc, if_neg (by decide), nn_nI (by omega), nn_nI (by omega), hT.2.2.2.2.1, e, h.1.2.1 r c hr hc]
  rcases h.gone hT hr with ⟨a, b⟩ | ⟨a, -, b⟩
  · have n1 : ¬ F (800 + r) = 1 := by rw [a]; decide
    have n2 : ¬ 0 < cm 9 0 r := by rw [b]; decide
    by_cases h5 : lk cm r c (nI M) = 5000
    · rw [if_pos (.inl h5), if_pos (.inr h5)]
      dsimp only
      rw [thr_49t, ans_2]
    · rw [if_neg (fun z => z.elim h5 n2), if_neg (fun z => z.elim n1 h5)]
      dsimp only
      rw [thr_49f, ans_0]
  · rw [if_pos (.inr b), if_pos (.inl a)]
    dsimp only
    rw [thr_49t, ans_2]
theorem noCell_r {cm : CM} {x c : Int32} (h : inR x 0 (cm 0 0 0 - 1) = false ∨ inR c 0 3 = false) : noCell cm x c = true := by
  rw [noCell]
  rcases h with e | e
  · rw [e]; rfl
  · rw [e, Bool.and_false]; rfl
theorem inR_top {R : Nat} (hR : R ≤ 1000) : inR (nI R) 0 (nI R - 1) = false := by
  cases h : inR (nI R) 0 (nI R - 1)
  · rfl
  · obtain ⟨a, ha, e⟩ := (inR_nI (by omega)).mp h
    have := nI_i e (by omega) (by omega)
    omega
theorem inR_m1 (x : Int32) : inR (-1) 0 x = false := by rw [inR, decide_eq_false (by decide)]; rfl
theorem vat_no {cm : CM} {x c : Int32} (h : noCell cm x c = true) : (vatM cm x c).2 49 0 0 = 1 := by
  rw [vatM, h, if_pos rfl]; dsimp only; exact thr_49t
theorem ld_no {cm : CM} {m x y z : Int32} (h : ldOk m x y z = false) : (ldM cm m x y z).2 49 0 0 = 1 ∧ ∀ k, k ≠ 49 → (ldM cm m x y z).2 k = cm k := by
  rw [ldM, h, if_pos rfl]; exact ⟨by dsimp only; exact thr_49t, fun k hk => by dsimp only; exact thr_nq hk⟩
theorem set_no {cm : CM} {x c v : Int32} (h : noCell cm x c = true) : (setM cm x c v).2 49 0 0 = 1 ∧ ∀ k, k ≠ 49 → (setM cm x c v).2 k = cm k := by
  rw [setM, h, if_pos rfl]; exact ⟨by dsimp only; exact thr_49t, fun k hk => by dsimp only; exact thr_nq hk⟩
theorem set_v {cm : CM} {x c v : Int32} (h : noCell cm x c = false) (hv : inR v (-999) 999 = false) : (setM cm x c v).2 49 0 0 = 2 ∧ ∀ k, k ≠ 49 → (setM cm x c v).2 k = cm k := by
  rw [setM, h, if_neg (by decide), hv, if_pos rfl]; exact ⟨by dsimp only; exact thr_49t, fun k hk => by dsimp only; rw [thr_nq hk, thr_nq hk]⟩
theorem clr_no {cm : CM} {x c : Int32} (h : noCell cm x c = true) : (clrM cm x c).2 49 0 0 = 1 ∧ ∀ k, k ≠ 49 → (clrM cm x c).2 k = cm k := by
  rw [clrM, h, if_pos rfl]; exact ⟨by dsimp only; exact thr_49t, fun k hk => by dsimp only; exact thr_nq hk⟩
theorem rm_no {cm : CM} {x : Int32} (h : inR x 0 (cm 0 0 0 - 1) = false) : (rmM cm x).2 49 0 0 = 1 ∧ ∀ k, k ≠ 49 → (rmM cm x).2 k = cm k := by
  rw [rmM, h, if_pos rfl]; exact ⟨by dsimp only; exact thr_49t, fun k hk => by dsimp only; exact thr_nq hk⟩
theorem gr_no {cm : CM} {x : Int32} (h : noScan cm x = true) : noResC cm x 49 0 0 = 1 := by
  rw [noResC, h, if_pos rfl]; exact thr_49t
theorem gr_op {cm : CM} {S s : Nat} (h4 : cm 4 0 0 = nI S) (hS : S ≤ 40) (hs : s < S) (h33 : cm 33 0 s = 0) : noResC cm (nI s) 49 0 0 = 2 := by
  have e1 : noScan cm (nI s) = false := by
    rw [noScan, h4, (inR_nI (by omega)).mpr ⟨s, hs, rfl⟩]; rfl
  rw [noResC, e1, if_neg (by decide), nn_nI (by omega), decide_eq_true h33]; exact thr_49t
theorem dn_no {cm : CM} {x : Int32} (h : noScan cm x = true) : thr cm (noScan cm x) 1 49 0 0 = 1 := by rw [h]; exact thr_49t
theorem rd_no {cm : CM} {cl : CL} {x : Int32} (h : inR x 1 40 = false) : (rdM cm cl x).1 49 0 0 = 1 ∧ ∀ k, k ≠ 49 → (rdM cm cl x).1 k = cm k := by
  rw [rdM, h, if_pos rfl]; exact ⟨by dsimp only; exact thr_49t, fun k hk => by dsimp only; exact thr_nq hk⟩
theorem sm_no {cm : CM} {x y : Int32} (h : noFil cm x = true) : noSumC cm x y 49 0 0 = 1 := by
  rw [noSumC, h, if_pos rfl]; exact thr_49t
theorem sm_m {cm : CM} {x y : Int32} (h : noFil cm x = false) (hy : inR y 0 3 = false) : noSumC cm x y 49 0 0 = 2 := by
  rw [noSumC, h, if_neg (by decide), hy]; exact thr_49t
theorem tb_no {cm : CM} {x y : Int32} (h : (inR x 0 (cm 4 0 0 - 1) && !decide (0 < cm 33 0 (nn x))) = false) : (tbM cm x y).2 49 0 0 = 1 ∧ ∀ k, k ≠ 49 → (tbM cm x y).2 k = cm k := by
  rw [tbM, h, if_pos rfl]; exact ⟨by dsimp only; exact thr_49t, fun k hk => by dsimp only; exact thr_nq hk⟩
theorem op_no {cm : CM} {x y z w : Int32} (h : noFil cm x = true) : (opM cm x y z w).2 49 0 0 = 1 ∧ ∀ k, k ≠ 49 → (opM cm x y z w).2 k = cm k := by
  rw [opM, h, if_pos rfl]; exact ⟨by dsimp only; exact thr_49t, fun k hk => by dsimp only; exact thr_nq hk⟩
theorem op_k {cm : CM} {x y z w : Int32} (h : noFil cm x = false) (hk : opOk y z w = false) : (opM cm x y z w).2 49 0 0 = 2 ∧ ∀ k, k ≠ 49 → (opM cm x y z w).2 k = cm k := by
  rw [opM, h, if_neg (by decide), hk, if_pos rfl]; exact ⟨by dsimp only; exact thr_49t, fun k hk => by dsimp only; rw [thr_nq hk, thr_nq hk]⟩
theorem noFil_9 {cm : CM} (h3 : cm 3 0 0 = nI 9) : noFil cm 9 = true ∧ noFil cm 0 = false ∧ noFil cm (-1) = true := by
  refine ⟨?_, ?_, ?_⟩
  · rw [noFil, h3]; decide
  · rw [noFil, h3]; decide
  · rw [noFil, inR_m1]; rfl
/-- a scan is there and finished -/
theorem dn_ok {cm : CM} {S s : Nat} (h4 : cm 4 0 0 = nI S) (hS : S ≤ 40) (hs : s < S) (h33 : 0 < cm 33 0 s) : thr cm (noScan cm (nI s)) 1 49 0 0 = 0 ∧ b2i (!noScan cm (nI s) && decide (0 < cm 33 0 (nn (nI s)))) = 1 := by
  have e1 : noScan cm (nI s) = false := by
    rw [noScan, h4, (inR_nI (by omega)).mpr ⟨s, hs, rfl⟩]; rfl
  rw [e1, nn_nI (by omega), decide_eq_true h33]
  exact ⟨thr_49f, rfl⟩
theorem GS.done {g : GG} {f : AH} {o : Nat} {O : AH} {cm : CM} {M S F s : Nat} (H : GS g f o O cm M S F) (hs : s < S) : 0 < cm 33 0 s ↔ ¬ cm 33 0 s = 0 := by
  obtain ⟨sh, V, L, cl, h, rfl, rfl⟩ := H.sr
  obtain ⟨R, G, -, -, -, -, -, -, -, -, hS40⟩ := h.tmr
  obtain ⟨s', R', Dn, e, -, h40, -, -, -, -, -, -, -, -, h2, -⟩ := h.scn (nI s) (by rw [nuB, decide_eq_true (show (0 : Int32) ≤ nI s from nI_pos' (by omega)), decide_eq_true (show nI s < nI sh.S from nI_lt hs (by omega))]; rfl)
  have : s = s' := nI_i e (by omega) (by omega)
  subst this
  exact h2
theorem Fi.ck {cm cm' : CM} {n : Nat} {F : Nat → Int32} (H : Fi cm n F) (h : ∀ k, k ≠ 49 → cm' k = cm k) : Fi cm' n F := by
  obtain ⟨a3, a0, a1, a2, a8, aj, a5, a9⟩ := H
  exact ⟨by rw [h 3 (by decide)]; exact a3, a0, a1, a2, a8, fun j hj => by rw [h 19 (by decide), h 20 (by decide), h 21 (by decide)]; exact aj j hj, fun j hj h5 => by rw [h 22 (by decide)]; exact a5 j hj h5, by rw [h 0 (by decide)]; exact a9⟩
theorem Fi.net {cm : CM} {F : Nat → Int32} (H : Fi cm 9 F) : NetN cm 0 0 F := by
  obtain ⟨a3, a0, a1, a2, a8, aj, a5, a9⟩ := H
  exact ⟨⟨a0, fun r c hr => absurd hr (Nat.not_lt_zero _), fun r hr => absurd hr (Nat.not_lt_zero _), aj⟩, a1, a2, fun r _ hr => a8 r hr⟩
/-- the script's numbers as they are loaded -/
theorem ld_ok {a b c e : Nat} (ha : a < 40) (hb : b < 200) (hc : c < 40) (he : e < 60) : ldOk (nI (1 + a)) (nI b - 100) (nI c - 20) (nI (1 + e)) = true := by
  have h1 := nI_sbi (a := b) (k := 100) (by omega) (by omega)
  have h2 := nI_sbi (a := c) (k := 20) (by omega) (by omega)
  have e1 : inR (nI (1 + a)) 1 40 = true := inR_i (by rw [nI_ti (by omega), show (1 : Int32).toInt = 1 from rfl]; omega) (by rw [nI_ti (by omega), show (40 : Int32).toInt = 40 from rfl]; omega)
  have e2 : inR (nI b - 100) (-999) 999 = true := inR_i (by rw [show (100 : Int32) = nI 100 from rfl, h1, show (-999 : Int32).toInt = -999 from by decide]; omega) (by rw [show (100 : Int32) = nI 100 from rfl, h1, show (999 : Int32).toInt = 999 from by decide]; omega)
  have e3 : inR (nI c - 20) (-99) 99 = true := inR_i (by rw [show (20 : Int32) = nI 20 from rfl, h2, show (-99 : Int32).toInt = -99 from by decide]; omega) (by rw [show (20 : Int32) = nI 20 from rfl, h2, show (99 : Int32).toInt = 99 from by decide]; omega)
  have e4 : inR (nI (1 + e)) 1 999 = true := inR_i (by rw [nI_ti (by omega), show (1 : Int32).toInt = 1 from rfl]; omega) (by rw [nI_ti (by omega), show (999 : Int32).toInt = 999 from by decide]; omega)
  rw [ldOk, e1, e2, e3, e4]; rfl
theorem key_1 {c : Nat} (h : c < 5) : nI c - 1 = -1 ∨ ∃ k, k < 4 ∧ nI c - 1 = nI k := by
  rcases Nat.eq_zero_or_pos c with rfl | h0
  · exact .inl (by decide)
  · exact .inr ⟨c - 1, by omega, nI_m1 h0⟩
/-- a scan opened, its net kept, its numbers told -/
theorem LI.opn {g : GG} {f : AH} {o an kp tl q : Nat} {O : AH} {cm cm' : CM} {M S R j m : Nat} {y : Int32} {F D G : Nat → Int32} {ka : Nat → Option Nat} (hO : O an = some (iar 1100 F)) (hT : O tl = some (iar 12 D)) (hk : O kp = some (krr 3 ka)) (hN : NetN cm R M F) (h0 : cm 0 0 0 = nI R) (hR1 : 1 ≤ R) (hR : R ≤ 160) (hS : S < 3) (hI : ScI cm O an R M S D ka) (hj : j < 9) (hm : m < 4) (hy : y = -1 ∨ ∃ c, c < 4 ∧ y = nI c)
    (c1 : ∀ k, k = 0 ∨ k = 2 ∨ k = 3 ∨ k = 6 ∨ (8 ≤ k ∧ k ≤ 13) ∨ (19 ≤ k ∧ k ≤ 21) → cm' k = cm k) (c2 : ∀ k s, 23 ≤ k → k ≤ 28 → s ≠ S → cm' k 0 s = cm k 0 s) (d3 : cm' 23 0 S = nI j) (d4 : cm' 24 0 S = y) (d5 : cm' 25 0 S = nI m) (d7 : cm' 27 0 S = nI M) (d8 : cm' 28 0 S = chN cm) (H : GS g f o O cm' M (S + 1) 9) (hq : f q = none) (hG : ∀ k, k < 1100 → G k = F k) :
    an ≠ q ∧ tl ≠ q ∧ kp ≠ q ∧ tl ≠ kp ∧ LI g (aup (aup (aup f q (iar 1100 G)) kp (krr 3 (updq ka S (some q)))) tl (iar 12 (upd (upd (upd D (4 * S) (nI j)) (4 * S + 1) y) (4 * S + 2) (nI m)))) o an kp tl cm' M (S + 1) R F (upd (upd (upd D (4 * S) (nI j)) (4 * S + 1) y) (4 * S + 2) (nI m)) (updq ka S (some q)) := by
  have nq : ∀ p c, O p = some c → p ≠ q := fun p c hp e => by
    have := H.at hp
    rw [e, hq] at this
    cases this
  have e1 : tl ≠ an := fun e => by rw [e, hO] at hT; exact absurd (iar_i hT) (by decide)
  have e2 : kp ≠ an := fun e => by rw [e, hO] at hk; exact iar_k hk
  have e3 : tl ≠ kp := fun e => by rw [e, hk] at hT; exact iar_k hT.symm
  have q1 := nq _ _ hO
  have q2 := nq _ _ hT
  have q3 := nq _ _ hk
  have H1 := H.nO hq (iar 1100 G)
  have H2 := H1.wO (a := kp) (c0 := krr 3 ka) (by rw [aup_n _ _ q3]; exact hk) (krr 3 (updq ka S (some q)))
  have H3 := H2.wO (a := tl) (c0 := iar 12 D) (by rw [aup_n _ _ e3, aup_n _ _ q2]; exact hT) (iar 12 (upd (upd (upd D (4 * S) (nI j)) (4 * S + 1) y) (4 * S + 2) (nI m)))
  have eN : ∀ t K, NetT cm R t K → NetT cm' R t K := fun t K h => h.ck (fun k hk => c1 k (by omega)) fun k j h1 h2 _ => by rw [c1 k (by omega)]
  have ec : chN cm' = chN cm := chN_ck (c1 0 (by omega))
  refine ⟨q1, q2, q3, e3, _, H3, by rw [aup_n _ _ e1.symm, aup_n _ _ e2.symm, aup_n _ _ q1]; exact hO, aup_s _ _ _, by rw [aup_n _ _ e3.symm, aup_s], ⟨eN _ _ hN.1, hN.2⟩, by rw [c1 0 (by omega)]; exact h0, hR1, hR, by omega, fun s hs => ?_⟩
  by_cases e : s = S
  · subst e
    refine ⟨j, m, M, q, G, updq_s _ _ _, q1.symm, by rw [aup_n _ _ q2.symm, aup_n _ _ q3.symm, aup_s], (eN _ _ hN.1).cgF hR hG, Nat.le_refl _, hj, hm, by rw [upd_n _ _ (by omega), upd_n _ _ (by omega), upd_s], ?_, upd_s _ _ _, d3, by rw [d4, upd_n _ _ (by omega), upd_s], d5, d7, by rw [d8, ec]⟩
    rw [upd_n _ _ (by omega), upd_s]
    exact hy
  · obtain ⟨j', m', ts, a, K, a1, a2, a3, a4, a5, a6, a7, a8, a9, b1, b2, b3, b4, b5, b6⟩ := hI s (by omega)
    have ua : ∀ i, i < 4 * S → upd (upd (upd D (4 * S) (nI j)) (4 * S + 1) y) (4 * S + 2) (nI m) i = D i := fun i hi => by rw [upd_n _ _ (by omega), upd_n _ _ (by omega), upd_n _ _ (by omega)]
    have x1 : a ≠ kp := fun z => by rw [z, hk] at a3; exact iar_k a3.symm
    have x2 : a ≠ tl := fun z => by rw [z, hT] at a3; exact absurd (iar_i a3) (by decide)
    have x3 := nq _ _ a3
    rw [← ua (4 * s) (by omega)] at a8
    rw [← ua (4 * s + 1) (by omega)] at a9 b3
    rw [← ua (4 * s + 2) (by omega)] at b1
    exact ⟨j', m', ts, a, K, by rw [updq_n _ _ e]; exact a1, a2, by rw [aup_n _ _ x2, aup_n _ _ x1, aup_n _ _ x3]; exact a3, eN _ _ a4, a5, a6, a7, a8, a9, b1, by rw [c2 23 s (by omega) (by omega) e]; exact b2, by rw [c2 24 s (by omega) (by omega) e]; exact b3, by rw [c2 25 s (by omega) (by omega) e]; exact b4, by rw [c2 27 s (by omega) (by omega) e]; exact b5, by rw [c2 28 s (by omega) (by omega) e, ec]; exact b6⟩

