-- deps: b0.simG 65.gp2 67.gp4 68.gp5 69.gp6 66.gp3
/-! each call: what both sides' calls stand upon, and what comes of them -/
/-- the first of these that holds, says what is thrown -/
def Cls : List (Prop × Int32) → Prop → (Int32 → Prop) → Prop
  | [], N, _ => N
  | c :: r, N, E => (c.1 → E c.2) ∧ (¬ c.1 → Cls r N E)
theorem Cls.mono {N N' : Prop} {E E' : Int32 → Prop} (hN : N → N') (hE : ∀ k, E k → E' k) : ∀ {l : List (Prop × Int32)}, Cls l N E → Cls l N' E'
  | [], h => hN h
  | _ :: _, h => ⟨fun y => hE _ (h.1 y), fun n => Cls.mono hN hE (h.2 n)⟩
theorem colB_nI {c : Int32} (h : colB c = true) : ∃ k, k < 4 ∧ c = nI k := by
  rw [colB, Bool.and_eq_true, decide_eq_true_eq, decide_eq_true_eq, i32_le, i32_lt, show (0 : Int32).toInt = 0 from rfl, show (4 : Int32).toInt = 4 from rfl] at h
  obtain ⟨n, h1, h2⟩ := nI_ps h.1
  exact ⟨n, by omega, h1⟩
theorem nuB_nI {n : Nat} {x : Int32} (hn : n < 2147483648) (h : nuB n x = true) : ∃ k, k < n ∧ x = nI k := by
  rw [nuB, Bool.and_eq_true, decide_eq_true_eq, decide_eq_true_eq, i32_le, i32_lt, show (0 : Int32).toInt = 0 from rfl, nI_ti hn] at h
  obtain ⟨k, h1, h2⟩ := nI_ps h.1
  exact ⟨k, by omega, h1⟩
theorem thr_49t {cm : CM} {k : Int32} : thr cm true k 49 0 0 = k := by rw [thr, c3_s, upd_s, if_pos rfl]
theorem thr_49f {cm : CM} {k : Int32} : thr cm false k 49 0 0 = 0 := by rw [thr, c3_s, upd_s, if_neg (by decide)]
/-- what the class's calls stand upon -/
theorem SR.cp {cm : CM} {cl : CL} {sh : Sh} {V : CV} {L : Int64} {M : Nat} (H : SR cm cl sh V L M) : (LsOk sh V 4 ∧ sh.C ≤ 10) ∧ (LsOk sh V 14 ∧ sh.S ≤ 40) ∧ (FsOk sh V ∧ FlOk sh V ∧ SfOk sh V ∧ SsOk sh V) ∧ (RwOk sh V 1 ∧ RcOk sh V) ∧ (BsOk sh ∧ CksOk sh V ∧ CsOk sh V) ∧ GsOk sh V ∧ (sh.N 17 = 960 ∧ sh.N 18 = 4 ∧ sh.N 3 = 160 ∧ sh.N 2 = 640) ∧ ∀ j, j < sh.S → PaOk sh (400 + 20 * j + 6) := by
  obtain ⟨R, G, P, Dn, w, W, hRd, hP, hMo, hNw, hWt, hFh, hLn, hTc, hBs, hOp, hCl⟩ := H
  have hsc := fun s hs => hRd.sc (s := s) hs
  obtain ⟨hT, hF, hFs, hL14, hL4, hCe, hCk, hz, e5, v8, e4, hS, e45, v10, hDn, hSc⟩ := hRd
  have hR := hT.1
  have hsf : ∀ j, j < sh.S → (∃ i, i < sh.F ∧ V (400 + 20 * j) 0 = nI i) ∧ (V (400 + 20 * j) 1 = -1 ∨ ∃ c, c < 4 ∧ V (400 + 20 * j) 1 = nI c) ∧ (∃ c, c < 4 ∧ V (400 + 20 * j) 2 = nI c) ∧ GrOk sh V (400 + 20 * j + 4) ∧ PaOk sh (400 + 20 * j + 6) := by
    intro j hj
    obtain ⟨i, ns, ts, x, y, ⟨a1, a2, a3, a4, a5, a6, a7, a8, a9, b1, b2, b3, b4, b5, b6, b7⟩, h2, h3, ⟨-, n, h4, gk, -⟩, -⟩ := hSc j hj
    have hB : pas x (fun r => aliveM cm r (nI ts)) ns ≤ cntN (fun r => aliveM cm r (nI ts)) ns := cntN_sub ns fun r _ hr => by rw [Bool.and_eq_true] at hr; exact hr.2
    have hB2 := cntN_le (fun r => aliveM cm r (nI ts)) ns
    have hn := gk.2.2.2.1
    refine ⟨⟨i, a1, a2⟩, by rw [a4]; exact a5, by rw [a6]; exact a7, ⟨⟨n, ?_, gk.2.2.1⟩, ?_⟩, b7⟩
    · rw [show 400 + 20 * j + 4 + 1 = 400 + 20 * j + 5 by omega, b6]; omega
    · rw [show 400 + 20 * j + 4 + 1 = 400 + 20 * j + 5 by omega, b6]; omega
  exact ⟨⟨hL4, by omega⟩, ⟨hL14, hS⟩, ⟨hFs, hF.FlOk, fun j hj => (hsf j hj).1, fun j hj => ⟨(hsf j hj).1, (hsf j hj).2.1, (hsf j hj).2.2.1, (hsf j hj).2.2.2.1⟩⟩, ⟨hNw.1.ok, hNw.1.ok, R, hR, hNw.1.1, hCe⟩, ⟨fun j hj => (hCk j hj).2.2.2.2.1, fun j hj => (hCk j hj).ok, fun j hj => (hCk j hj).1⟩, fun j hj => (hsf j hj).2.2.2.1, ⟨hNw.2.2.2.1, hNw.2.2.2.2, hNw.2.1, by have := hNw.1.2.2.1; rw [hNw.2.1] at this; exact this⟩, fun j hj => (hsf j hj).2.2.2.2⟩
/-- what the reference's calls stand upon -/
theorem SR.rp {cm : CM} {cl : CL} {sh : Sh} {V : CV} {L : Int64} {M : Nat} (H : SR cm cl sh V L M) : (Nb (cm 0 0 0) 160 ∧ Nb (cm 2 0 0) 1000 ∧ Nb (cm 3 0 0) 30 ∧ Nb (cm 4 0 0) 40) ∧ FOk cm ∧ SOk cm ∧ GOk cm ∧ LOk cm ∧ BOk cm ∧ WOk cm := by
  obtain ⟨R, G, P, Dn, w, W, hRd, hP, hMo, hNw, hWt, hFh, hLn, hTc, hBs, hOp, hCl⟩ := H
  have hsc := fun s hs => hRd.sc (s := s) hs
  have hLO := hRd.LOk
  obtain ⟨hT, hF, hFs, hL14, hL4, hCe, hCk, hz, e5, v8, e4, hS, e45, v10, hDn, hSc⟩ := id hRd
  obtain ⟨hR, hM, hG, h0, h1, h2, -⟩ := hT
  have hSO : SOk cm := by
    refine ⟨⟨sh.S, hS, e4⟩, fun k hk => ?_⟩
    rw [e4, nn_nI (by omega)] at hk
    obtain ⟨ts, -, -, t3, -⟩ := hTc k hk
    obtain ⟨j, ts', j1, j2, -⟩ := hsc k hk
    exact ⟨t3, j, by rw [hF.1, nn_nI (by have := hF.2.1; omega)]; exact j1, j2⟩
  refine ⟨⟨⟨R, hR, h0⟩, ⟨G, by omega, h2⟩, ⟨sh.F, hF.2.1, hF.1⟩, ⟨sh.S, hS, e4⟩⟩, hF.FOk, hSO, ⟨hSO, fun a ha => ?_⟩, hLO, hFh.1, ⟨R, hR, h0⟩, ⟨G, by omega, h2⟩, hF.FOk, hSO⟩
  rw [e4, nn_nI (by omega)] at ha
  have hg := hSc a ha
  obtain ⟨i, ns, ts, x, y, a1, -, -, ⟨-, n, h4, gk, -⟩, -⟩ := id hg
  have hns : ns ≤ R := a1.2.2.2.2.2.2.2.2.2.2.2.1
  have hB : pas x (fun r => aliveM cm r (nI ts)) ns ≤ ns := cntN_le _ ns
  have hn := gk.2.2.2.1
  refine ⟨⟨n, by omega, gk.2.1⟩, fun hd b hb => ?_⟩
  obtain ⟨m, hm, q1, q2, q3⟩ := hg.at hR hd
  rw [q1, nn_nI (by omega)] at hb ⊢
  obtain ⟨g, hg', e, -⟩ := q3 b hb
  exact ⟨g, hg', e⟩
/-- cells of rows -/
theorem SR.cell {cm : CM} {cl : CL} {sh : Sh} {V : CV} {L : Int64} {M : Nat} (H : SR cm cl sh V L M) (x c : Int32) : noCell cm x c = !(thrB V 1 x && colB c) ∧ inR x 0 (cm 0 0 0 - 1) = thrB V 1 x ∧ cm 1 0 0 = nI M ∧ M ≤ 1000 ∧ (thrB V 1 x = true → ∃ r, x = nI r ∧ r < nn (V 1 2) ∧ r < 160 ∧ (0 < cm 9 0 r ↔ ¬ cm 9 0 r = 0) ∧ rAl sh V 1 r = decide (cm 9 0 r = 0) ∧ ∀ k, k < 4 → vl (lk cm r k (nI M)) ∧ rVal V 1 r k = mp (lk cm r k (nI M))) := by
  obtain ⟨R, G, P, Dn, w, W, hRd, hP, hMo, hNw, hWt, hFh, hLn, hTc, hBs, hOp, hCl⟩ := H
  have hT := hRd.1
  obtain ⟨hR, hM, hG, h0, h1, h2, hTL, hTA⟩ := id hT
  have e : inR x 0 (cm 0 0 0 - 1) = thrB V 1 x := by rw [h0, inR_nu (by omega), thrB_nu hNw.1.1]
  refine ⟨by rw [noCell, e, inR_col], e, h1, hM, fun ht => ?_⟩
  rw [thrB_nu hNw.1.1] at ht
  obtain ⟨r, hr, rfl⟩ := nuB_nI (by omega) ht
  obtain ⟨-, ⟨b, hb, eb⟩, -⟩ := hTA r hr
  refine ⟨r, rfl, by rw [hNw.1.1, nn_nI (by omega)]; exact hr, by omega, ?_, ?_, fun k hk => ⟨lk_vl hT _ hr hk, hNw.1.val hr hk⟩⟩
  · rw [eb, show (0 : Int32) = nI 0 from rfl, nI_ltq (by omega) (by omega), nI_eqq (by omega) (by omega)]
    omega
  · rw [hNw.1.al, decide_eq_true hr, Bool.true_and, alive_M hT hr]
theorem P_valueAt {cm : CM} {cl : CL} {sh : Sh} {V : CV} {L : Int64} {M : Nat} (H : SR cm cl sh V L M) (x c : Int32) :
    Cls [((thrB V 1 x && colB c) = false, 1), ((!rAl sh V 1 (nn x) || decide (rVal V 1 (nn x) (nn c) = -1000)) = true, 2)] ((vatM cm x c).2 49 0 0 = 0 ∧ rVal V 1 (nn x) (nn c) = (vatM cm x c).1 ∧ SR (vatM cm x c).2 cl sh V L M) (fun k => (vatM cm x c).2 49 0 0 = k ∧ SR (vatM cm x c).2 cl sh V L M) := by
  obtain ⟨e1, e2, e3, e4, e5⟩ := H.cell x c
  rw [vatM, e1, e3]
  refine ⟨fun h => ?_, fun h => ?_⟩
  · rw [h, Bool.not_false, if_pos rfl]; dsimp only; exact ⟨thr_49t, H.th _ _⟩
  · have h' : (thrB V 1 x && colB c) = true := by simpa using h
    rw [h', Bool.not_true, if_neg (by decide)]
    rw [Bool.and_eq_true] at h'
    obtain ⟨r, rfl, hr, hr160, h9, hal, hval⟩ := e5 h'.1
    obtain ⟨k, hk, rfl⟩ := colB_nI h'.2
    rw [nn_nI (by omega), nn_nI (by omega)]
    obtain ⟨v1, v2⟩ := hval k hk
    have el : lk (thr cm false 1) r k (nI M) = lk cm r k (nI M) := FrN.lk (fun q hq => thr_nq fun e => by subst e; exact Bool.noConfusion hq) r k _
    rw [hal, v2, el]
    have ec : ((!decide (cm 9 0 r = 0) || decide (mp (lk cm r k (nI M)) = -1000)) = true) ↔ (lk cm r k (nI M) = 5000 ∨ 0 < cm 9 0 r) := by
      rw [Bool.or_eq_true, decide_eq_true_eq, (vl_mp v1).1, h9]
      simp [or_comm]
    refine ⟨fun h2 => ?_, fun h2 => ?_⟩
    · rw [if_pos (ec.mp h2)]; dsimp only; exact ⟨thr_49t, (H.th _ _).th _ _⟩
    · have h2' : ¬ (lk cm r k (nI M) = 5000 ∨ 0 < cm 9 0 r) := fun q => h2 (ec.mpr q)
      rw [if_neg h2']
      exact ⟨by dsimp only; exact thr_49f, (vl_mp v1).2.1 fun q => h2' (.inl q), (H.th _ _).th _ _⟩
theorem P_set {cm : CM} {cl : CL} {sh : Sh} {V : CV} {L : Int64} {M : Nat} (H : SR cm cl sh V L M) (hM : M < 1000) (x c v : Int32) :
    Cls [((thrB V 1 x && colB c) = false, 1), (inR v (-999) 999 = false, 2), (rAl sh V 1 (nn x) = false, 3)] ((setM cm x c v).2 49 0 0 = 0 ∧ decide (rVal V 1 (nn x) (nn c) = -1000) = (setM cm x c v).1 ∧ SR (setM cm x c v).2 cl sh (wrV V (100 + 10 * (nn x / 16)) (nn x) (nn c) v) L (M + 1)) (fun k => (setM cm x c v).2 49 0 0 = k ∧ SR (setM cm x c v).2 cl sh V L M) := by
  obtain ⟨e1, e2, e3, e4, e5⟩ := H.cell x c
  rw [setM, e1, e3]
  refine ⟨fun h => ?_, fun h => ?_⟩
  · rw [h, Bool.not_false, if_pos rfl]; dsimp only; exact ⟨thr_49t, H.th _ _⟩
  · have h' : (thrB V 1 x && colB c) = true := by simpa using h
    rw [h', Bool.not_true, if_neg (by decide)]
    rw [Bool.and_eq_true] at h'
    obtain ⟨r, rfl, hr, hr160, h9, hal, hval⟩ := e5 h'.1
    obtain ⟨k, hk, rfl⟩ := colB_nI h'.2
    rw [nn_nI (by omega), nn_nI (by omega)]
    obtain ⟨v1, v2⟩ := hval k hk
    refine ⟨fun h2 => ?_, fun h2 => ?_⟩
    · rw [if_pos h2]; dsimp only; exact ⟨thr_49t, (H.th _ _).th _ _⟩
    · have h2' : inR v (-999) 999 = true := by simpa using h2
      rw [if_neg h2, hal]
      refine ⟨fun h3 => ?_, fun h3 => ?_⟩
      · rw [if_pos (h9.mpr (by simpa using h3))]; dsimp only; exact ⟨thr_49t, ((H.th _ _).th _ _).th _ _⟩
      · rw [if_neg (fun q => h3 (by simpa using h9.mp q)), v2]
        rw [inR, Bool.and_eq_true, decide_eq_true_eq, decide_eq_true_eq, i32_le, i32_le, show (-999 : Int32).toInt = -999 from by decide, show (999 : Int32).toInt = 999 from by decide] at h2'
        have hv : vl v := .inr h2'
        have hv5 : ¬ v = 5000 := fun e => by rw [e, show (5000 : Int32).toInt = 5000 from by decide] at h2'; omega
        have hR := set_R (c := k) (((H.th false 1).th false 2).th false 3) hM hr hk hv
        rw [(mp_n hv hv5).1] at hR
        have el : lk (thr (thr (thr cm false 1) false 2) false 3) r k (nI M) = lk cm r k (nI M) := FrN.lk (fun q hq => by
          have : q ≠ 49 := fun e => by subst e; exact Bool.noConfusion hq
          rw [thr_nq this, thr_nq this, thr_nq this]) r k _
        refine ⟨?_, ?_, hR⟩
        · dsimp only
          rw [setC_e.1 49 (by decide) (by decide) (by decide) (by decide) (by decide) (by decide), wrC_n (by decide) (by decide) (by decide) (by decide) (by decide) (by decide)]
          exact thr_49f
        · dsimp only
          rw [el, decide_eq_decide]; exact (vl_mp v1).1
theorem P_clear {cm : CM} {cl : CL} {sh : Sh} {V : CV} {L : Int64} {M : Nat} (H : SR cm cl sh V L M) (hM : M < 1000) (x c : Int32) :
    Cls [((thrB V 1 x && colB c) = false, 1), (rAl sh V 1 (nn x) = false, 2)] ((clrM cm x c).2 49 0 0 = 0 ∧ decide (rVal V 1 (nn x) (nn c) = -1000) = (clrM cm x c).1 ∧ SR (clrM cm x c).2 cl sh (wrV V (100 + 10 * (nn x / 16)) (nn x) (nn c) (-1000)) L (M + 1)) (fun k => (clrM cm x c).2 49 0 0 = k ∧ SR (clrM cm x c).2 cl sh V L M) := by
  obtain ⟨e1, e2, e3, e4, e5⟩ := H.cell x c
  rw [clrM, e1, e3]
  refine ⟨fun h => ?_, fun h => ?_⟩
  · rw [h, Bool.not_false, if_pos rfl]; dsimp only; exact ⟨thr_49t, H.th _ _⟩
  · have h' : (thrB V 1 x && colB c) = true := by simpa using h
    rw [h', Bool.not_true, if_neg (by decide)]
    rw [Bool.and_eq_true] at h'
    obtain ⟨r, rfl, hr, hr160, h9, hal, hval⟩ := e5 h'.1
    obtain ⟨k, hk, rfl⟩ := colB_nI h'.2
    rw [nn_nI (by omega), nn_nI (by omega)]
    obtain ⟨v1, v2⟩ := hval k hk
    rw [hal]
    refine ⟨fun h3 => ?_, fun h3 => ?_⟩
    · rw [if_pos (h9.mpr (by simpa using h3))]; dsimp only; exact ⟨thr_49t, (H.th _ _).th _ _⟩
    · rw [if_neg (fun q => h3 (by simpa using h9.mp q)), v2]
      have hR := set_R (c := k) (v := 5000) ((H.th false 1).th false 2) hM hr hk (.inl rfl)
      have el : lk (thr (thr cm false 1) false 2) r k (nI M) = lk cm r k (nI M) := FrN.lk (fun q hq => by
        have : q ≠ 49 := fun e => by subst e; exact Bool.noConfusion hq
        rw [thr_nq this, thr_nq this]) r k _
      refine ⟨?_, ?_, hR⟩
      · dsimp only
        rw [setC_e.1 49 (by decide) (by decide) (by decide) (by decide) (by decide) (by decide), wrC_n (by decide) (by decide) (by decide) (by decide) (by decide) (by decide)]
        exact thr_49f
      · dsimp only
        rw [el, decide_eq_decide]; exact (vl_mp v1).1
theorem P_remove {cm : CM} {cl : CL} {sh : Sh} {V : CV} {L : Int64} {M : Nat} (H : SR cm cl sh V L M) (hM : M < 1000) (x : Int32) :
    Cls [(thrB V 1 x = false, 1), (rAl sh V 1 (nn x) = false, 2)] ((rmM cm x).2 49 0 0 = 0 ∧ rmV sh V (100 + 10 * (nn x / 16)) (nn x) 1 3 = (rmM cm x).1 ∧ SR (rmM cm x).2 cl sh (rmV sh V (100 + 10 * (nn x / 16)) (nn x)) L (M + 1)) (fun k => (rmM cm x).2 49 0 0 = k ∧ SR (rmM cm x).2 cl sh V L M) := by
  obtain ⟨e1, e2, e3, e4, e5⟩ := H.cell x 0
  rw [rmM, e2]
  refine ⟨fun h => ?_, fun h => ?_⟩
  · rw [if_pos h]; dsimp only; exact ⟨thr_49t, H.th _ _⟩
  · obtain ⟨r, rfl, hr, hr160, h9, hal, hval⟩ := e5 (by simpa using h)
    rw [if_neg h, nn_nI (by omega), hal]
    refine ⟨fun h3 => ?_, fun h3 => ?_⟩
    · rw [if_pos (h9.mpr (by simpa using h3))]; dsimp only; exact ⟨thr_49t, (H.th _ _).th _ _⟩
    · have h90 : cm 9 0 r = 0 := by simpa using h3
      rw [if_neg (fun q => h3 (by simpa using h9.mp q))]
      obtain ⟨q1, n, hn, q2, q3⟩ := rem_R (r := r) ((H.th false 1).th false 2) hM hr (by rw [thr_nq (by decide), thr_nq (by decide)]; exact h90)
      refine ⟨?_, ?_, q1⟩
      · dsimp only
        rw [rmC_e.1 49 (by decide) (by decide) (by decide) (by decide)]
        exact thr_49f
      · rw [q2]
        rw [thr_nq (by decide), thr_nq (by decide)] at q3
        exact q3.symm


