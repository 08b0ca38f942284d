-- deps: c7.lawp c2.law1 c3.law2 c4.law3 c5.law4 c6.law5
/-! ===== both sides in one heap ===== -/
theorem MRep.sub {O f : AH} {adm : Nat → Nat} {cm : CM} {cl : CL} (h : MRep O adm cm cl) (hs : ∀ i c, vM i = true → O (adm i) = some c → f (adm i) = some c) : MRep f adm cm cl := by
  obtain ⟨h1, h2, h3, h4⟩ := h
  refine ⟨hs 0 _ (by decide) h1, fun k d n hk => hs k _ ?_ (h2 k d n hk), fun k o d hk => ⟨hs k _ ?_ (h3 k o d hk).1, fun r hr => hs (100 * k + r) _ ?_ ((h3 k o d hk).2 r hr)⟩, h4⟩
  · rw [vM, hk]; simp
  · rw [vM, hk]; simp
  · rw [vM, show (100 * k + r) % 100 = r by omega, show (100 * k + r) / 100 = k by omega, hk]; simp [hr]
theorem MRep.dom {O : AH} {adm : Nat → Nat} {cm : CM} {cl : CL} (h : MRep O adm cm cl) {i : Nat} (hi : vM i = true) : ∃ c, O (adm i) = some c := by
  obtain ⟨h1, h2, h3, -⟩ := h
  simp only [vM, Bool.or_eq_true, Bool.and_eq_true, decide_eq_true_eq, Option.isSome_iff_exists] at hi
  rcases hi with ((rfl | ⟨⟨d, n⟩, hi⟩) | ⟨⟨o, d⟩, hi⟩) | ⟨hr, ⟨o, d⟩, hi⟩
  · exact ⟨_, h1⟩
  · exact ⟨_, h2 _ _ _ hi⟩
  · exact ⟨_, (h3 _ _ _ hi).1⟩
  · have := (h3 _ _ _ hi).2 _ hr
    rw [show 100 * (i / 100) + i % 100 = i by omega] at this
    exact ⟨_, this⟩
def LWs (g : GG) (O f : AH) (ad adm : Nat → Nat) (ao aod : Nat) (sh : Sh) (V : CV) (L : Int64) (cm : CM) (cl : CL) (wd : Nat → Int64) (we : Nat → UInt64) : Prop := CR g O f ad sh V L ∧ MRep O adm cm cl ∧ O ao = some (lar wd) ∧ O aod = some (dar we) ∧ ∀ i, vM i = true → ao ≠ adm i ∧ aod ≠ adm i
section
variable {g : GG} {O f f' : AH} {ad ad' adm : Nat → Nat} {ao aod : Nat} {sh sh' : Sh} {V V' : CV} {L L' : Int64} {cm cm' : CM} {cl cl' : CL} {wd wd' : Nat → Int64} {we we' : Nat → UInt64}
theorem LWs.same (h : LWs g O f ad adm ao aod sh V L cm cl wd we) (hC : CR g O f' ad' sh' V' L') : LWs g O f' ad' adm ao aod sh' V' L' cm cl wd we := ⟨hC, h.2⟩
theorem LWs.out (h : LWs g O f ad adm ao aod sh V L cm cl wd we) (hC : CR g (aup O ao (lar wd')) f' ad' sh' V' L') : LWs g (aup O ao (lar wd')) f' ad' adm ao aod sh' V' L' cm cl wd' we := by
  obtain ⟨h1, h2, h3, h4, h5⟩ := h
  refine ⟨hC, h2.sub fun i c hi hc => by rw [aup_n _ _ (fun e => (h5 i hi).1 e.symm)]; exact hc, aup_s _ _ _, ?_, h5⟩
  rw [aup_n _ _ (fun e => by rw [e, h3] at h4; simp at h4)]
  exact h4
theorem LWs.outD (h : LWs g O f ad adm ao aod sh V L cm cl wd we) (hC : CR g (aup O aod (dar we')) f' ad' sh' V' L') : LWs g (aup O aod (dar we')) f' ad' adm ao aod sh' V' L' cm cl wd we' := by
  obtain ⟨h1, h2, h3, h4, h5⟩ := h
  refine ⟨hC, h2.sub fun i c hi hc => by rw [aup_n _ _ (fun e => (h5 i hi).2 e.symm)]; exact hc, ?_, aup_s _ _ _, h5⟩
  rw [aup_n _ _ (fun e => by rw [e, h4] at h3; simp at h3)]
  exact h3
theorem LWs.mr (h : LWs g O f ad adm ao aod sh V L cm cl wd we) : MR f f adm cm cl := ⟨h.2.1.sub fun i c _ hc => (h.1.2.2 _ _ hc).1, fun _ _ => rfl⟩
theorem LWs.hm (h : LWs g O f ad adm ao aod sh V L cm cl wd we) : hobj f (adm 0) 10 (fun _ => True) := by
  rw [hobj, h.mr.1.1]
  exact ⟨rfl, trivial⟩
theorem LWs.hx (h : LWs g O f ad adm ao aod sh V L cm cl wd we) : hobj f (ad 0) 9 (fun _ => True) := by
  rw [hobj, h.1.o9 rfl]
  exact ⟨rfl, trivial⟩
theorem LWs.ref (h : LWs g O f ad adm ao aod sh V L cm cl wd we) (hm : MR f f' adm cm' cl') : ∃ O', LWs g O' f' ad adm ao aod sh V L cm' cl' wd we := by
  obtain ⟨⟨c1, c2, c3⟩, h2, h3, h4, h5⟩ := h
  obtain ⟨m1, m2⟩ := hm
  have hout : ∀ q c, O q = some c → (∀ i, vM i = true → q ≠ adm i) → f' q = some c := fun q c hq hi => by rw [m2 q hi]; exact (c3 q c hq).1
  refine ⟨fun q => (O q).bind fun _ => f' q, ⟨fun i c hc => ?_, c2, fun q c hq => ?_⟩, m1.sub fun i c hi hc => ?_, ?_, ?_, h5⟩
  · have hk : kd sh i ≠ 0 := fun e => by rw [cell, e] at hc; cases hc
    rw [m2 (ad i) fun j hj e => ?_]
    · exact c1 i c hc
    · obtain ⟨cj, hcj⟩ := h2.dom hj
      exact (c3 _ _ hcj).2 i hk e.symm
  · replace hq : (O q).bind (fun _ => f' q) = some c := hq
    cases e : O q with
    | none => rw [e] at hq; cases hq
    | some c0 =>
      rw [e] at hq
      exact ⟨hq, (c3 q c0 e).2⟩
  · obtain ⟨c0, h0⟩ := h2.dom hi
    show (O (adm i)).bind _ = _
    rw [h0]
    exact hc
  · show (O ao).bind _ = _
    rw [h3]
    exact hout _ _ h3 fun i hi => (h5 i hi).1
  · show (O aod).bind _ = _
    rw [h4]
    exact hout _ _ h4 fun i hi => (h5 i hi).2
end
/-- both stand alike, at a moment of at most n -/
def LQ (g : GG) (x m ao aod n : Nat) (f : AH) : Prop := ∃ (O : AH) (ad adm : Nat → Nat) (sh : Sh) (V : CV) (L : Int64) (cm : CM) (cl : CL) (wd : Nat → Int64) (we : Nat → UInt64) (M : Nat), ad 0 = x ∧ adm 0 = m ∧ LWs g O f ad adm ao aod sh V L cm cl wd we ∧ SR cm cl sh V L M ∧ M ≤ n
/-- .. and the last call was thrown with k, and what it gave stands in the two arrays -/
def PoR (g : GG) (x m ao aod n : Nat) (k : Int32) (R : (Nat → Int64) → (Nat → UInt64) → Prop) (f : AH) : Prop := ∃ (O : AH) (ad adm : Nat → Nat) (sh : Sh) (V : CV) (L : Int64) (cm : CM) (cl : CL) (wd : Nat → Int64) (we : Nat → UInt64) (M : Nat), ad 0 = x ∧ adm 0 = m ∧ LWs g O f ad adm ao aod sh V L cm cl wd we ∧ SR cm cl sh V L M ∧ M ≤ n ∧ cm 49 0 0 = k ∧ (k = 0 → R wd we)
section
variable {g : GG} {x m ao aod n : Nat} {k : Int32} {R : (Nat → Int64) → (Nat → UInt64) → Prop} {f : AH}
theorem PoR.lq (h : PoR g x m ao aod n k R f) : LQ g x m ao aod n f := by
  obtain ⟨O, ad, adm, sh, V, L, cm, cl, wd, we, M, h1, h2, h3, h4, h5, -⟩ := h
  exact ⟨O, ad, adm, sh, V, L, cm, cl, wd, we, M, h1, h2, h3, h4, h5⟩
theorem PoR.hm (h : PoR g x m ao aod n k R f) : hobj f m 10 (fun _ => True) := by
  obtain ⟨O, ad, adm, sh, V, L, cm, cl, wd, we, M, h1, rfl, h3, -⟩ := h
  exact h3.hm
theorem PoR.thr (h : PoR g x m ao aod n k R f) {Q : Option Value → AH → Prop} {X : String → AH → Prop} (hq : ∀ f', PoR g x m ao aod n k R f' → Q (some (.int k)) f') : T_Mo_thrown [.ref m] f Q X := by
  obtain ⟨O, ad, adm, sh, V, L, cm, cl, wd, we, M, h1, rfl, h3, h4, h5, rfl, h7⟩ := h
  refine i_Mo_thrown_ h3.mr fun f' hm => hq f' ?_
  obtain ⟨O', W⟩ := h3.ref hm
  exact ⟨O', ad, adm, sh, V, L, cm, cl, wd, we, M, h1, rfl, W, h4, h5, rfl, h7⟩
theorem PoR.ar (h : PoR g x m ao aod n k R f) : ∃ wd we, f ao = some (lar wd) ∧ f aod = some (dar we) ∧ (k = 0 → R wd we) := by
  obtain ⟨O, ad, adm, sh, V, L, cm, cl, wd, we, M, h1, h2, h3, h4, h5, h6, h7⟩ := h
  exact ⟨wd, we, (h3.1.2.2 _ _ h3.2.2.1).1, (h3.1.2.2 _ _ h3.2.2.2.1).1, h7⟩
theorem LQ.hm (h : LQ g x m ao aod n f) : hobj f m 10 (fun _ => True) := by
  obtain ⟨O, ad, adm, sh, V, L, cm, cl, wd, we, M, h1, rfl, h3, -⟩ := h
  exact h3.hm
theorem LQ.hx (h : LQ g x m ao aod n f) : hobj f x 9 (fun _ => True) := by
  obtain ⟨O, ad, adm, sh, V, L, cm, cl, wd, we, M, rfl, h2, h3, -⟩ := h
  exact h3.hx
theorem LQ.up {n' : Nat} (h : LQ g x m ao aod n f) (hn : n ≤ n') : LQ g x m ao aod n' f := by
  obtain ⟨O, ad, adm, sh, V, L, cm, cl, wd, we, M, h1, h2, h3, h4, h5⟩ := h
  exact ⟨O, ad, adm, sh, V, L, cm, cl, wd, we, M, h1, h2, h3, h4, by omega⟩
end
def Cnz : List (Prop × Int32) → Prop
  | [] => True
  | c :: r => c.2 ≠ 0 ∧ Cnz r
theorem Cls.monz {N N' : Prop} {E E' : Int32 → Prop} (hN : N → N') (hE : ∀ k, k ≠ 0 → E k → E' k) : ∀ {l : List (Prop × Int32)}, Cnz l → Cls l N E → Cls l N' E'
  | [], _, h => hN h
  | _ :: _, z, h => ⟨fun y => hE _ z.1 (h.1 y), fun n => Cls.monz hN hE z.2 (h.2 n)⟩
theorem Nb_le {x : Int32} {a b : Nat} (h : Nb x a) (hab : a ≤ b) : Nb x b := by
  obtain ⟨n, h1, h2⟩ := h
  exact ⟨n, by omega, h2⟩
theorem b2i_L (b : Bool) : (if b then (1 : Int64) else 0) = (b2i b).toInt64 := by cases b <;> rfl
theorem KA_remove {g : GG} {x m ao aod n : Nat} {f : AH} (H : LQ g x m ao aod n f) (hn : n < 1000) (x9 : Int32) {Q : Option Value → AH → Prop} {X : String → AH → Prop} (h : ∀ (k : Int32) (f' : AH), hobj f' m 10 (fun _ => True) → (∀ (Q' : Option Value → AH → Prop) (X' : String → AH → Prop), (∀ (v : Int32) f'', PoR g x m ao aod (n + 1) k (fun wd _ => wd 0 = v.toInt64) f'' → Q' (some (.int v)) f'') → T_Mo_remove [.ref m, .int x9] f' Q' X') → Q (some (.int k)) f') : T_La_remove g [.ref x, .int x9, .ref ao] f Q X := by
  obtain ⟨O, ad, adm, sh, V, L, cm, cl, wd, we, M, rfl, rfl, W, hS, hM⟩ := H
  obtain ⟨⟨p1, p2⟩, ⟨p3, p4⟩, ⟨p5, p6, p7, p8⟩, ⟨p9, q1⟩, ⟨q2, q3, q4⟩, q5, ⟨q6, q7, q8, q9⟩, qa⟩ := hS.cp
  obtain ⟨⟨r1, r2, r3, r4⟩, r5, r6, r7, r8, r9, ra⟩ := hS.rp
  have hE : ∀ (k : Int32) (f' : AH), k ≠ 0 → (rmM cm x9).2 49 0 0 = k → SR ((rmM cm x9).2) (cl) sh V L M → CR g O f' ad sh V L → Q (some (.int k)) f' := by
    intro k f' hk0 hk hS' hC
    have W1 := W.same hC
    refine h k f' W1.hm fun Q' X' hq => i_Mo_remove_ W1.mr ⟨(by first | assumption | exact hch.1 | exact hch.2 | exact Nb_le r2 (by omega) | omega | rfl), (by first | assumption | exact hch.1 | exact hch.2 | exact Nb_le r2 (by omega) | omega | rfl), (by first | assumption | exact hch.1 | exact hch.2 | exact Nb_le r2 (by omega) | omega | rfl)⟩ fun f'' hm => hq _ _ ?_
    obtain ⟨O', W2⟩ := W1.ref hm
    exact ⟨O', ad, adm, sh, V, L, _, _, wd, we, M, rfl, rfl, W2, hS', by omega, hk, fun e => absurd e hk0⟩
  refine i_La_remove_ W.1 W.2.2.1 ⟨(by first | assumption | exact hch.1 | exact hch.2 | exact Nb_le r2 (by omega) | omega | rfl), (by first | assumption | exact hch.1 | exact hch.2 | exact Nb_le r2 (by omega) | omega | rfl), (by first | assumption | exact hch.1 | exact hch.2 | exact Nb_le r2 (by omega) | omega | rfl), (by first | assumption | exact hch.1 | exact hch.2 | exact Nb_le r2 (by omega) | omega | rfl)⟩ (Cls.monz ?_ (fun k hk0 hh f' hC => hE k f' hk0 hh.1 hh.2 hC) ⟨show (1 : Int32) ≠ 0 by decide, show (2 : Int32) ≠ 0 by decide, trivial⟩ (P_remove hS (by omega) x9))
  rintro ⟨h0, hR, hS'⟩ f' hC
  have W1 := W.out hC
  refine h 0 f' W1.hm fun Q' X' hq => i_Mo_remove_ W1.mr ⟨(by first | assumption | exact hch.1 | exact hch.2 | exact Nb_le r2 (by omega) | omega | rfl), (by first | assumption | exact hch.1 | exact hch.2 | exact Nb_le r2 (by omega) | omega | rfl), (by first | assumption | exact hch.1 | exact hch.2 | exact Nb_le r2 (by omega) | omega | rfl)⟩ fun f'' hm => hq _ _ ?_
  obtain ⟨O', W2⟩ := W1.ref hm
  exact ⟨O', ad, adm, _, _, _, _, _, _, _, (M + 1), rfl, rfl, W2, hS', by omega, h0, fun _ => by rw [← hR]; rfl⟩
theorem KA_isDone {g : GG} {x m ao aod n : Nat} {f : AH} (H : LQ g x m ao aod n f) (hn : n < 1000) (x9 : Int32) {Q : Option Value → AH → Prop} {X : String → AH → Prop} (h : ∀ (k : Int32) (f' : AH), hobj f' m 10 (fun _ => True) → (∀ (Q' : Option Value → AH → Prop) (X' : String → AH → Prop), (∀ (bb : Bool) f'', PoR g x m ao aod (n + 1) k (fun wd _ => wd 0 = (b2i bb).toInt64) f'' → Q' (some (.int (b2i bb))) f'') → T_Mo_isDone [.ref m, .int x9] f' Q' X') → Q (some (.int k)) f') : T_La_isDone g [.ref x, .int x9, .ref ao] f Q X := by
  obtain ⟨O, ad, adm, sh, V, L, cm, cl, wd, we, M, rfl, rfl, W, hS, hM⟩ := H
  obtain ⟨⟨p1, p2⟩, ⟨p3, p4⟩, ⟨p5, p6, p7, p8⟩, ⟨p9, q1⟩, ⟨q2, q3, q4⟩, q5, ⟨q6, q7, q8, q9⟩, qa⟩ := hS.cp
  obtain ⟨⟨r1, r2, r3, r4⟩, r5, r6, r7, r8, r9, ra⟩ := hS.rp
  have hE : ∀ (k : Int32) (f' : AH), k ≠ 0 → thr cm (noScan cm x9) 1 49 0 0 = k → SR (thr cm (noScan cm x9) 1) (cl) sh V L M → CR g O f' ad sh V L → Q (some (.int k)) f' := by
    intro k f' hk0 hk hS' hC
    have W1 := W.same hC
    refine h k f' W1.hm fun Q' X' hq => i_Mo_isDone_ W1.mr (by first | assumption | exact hch.1 | exact hch.2 | exact Nb_le r2 (by omega) | omega | rfl) fun f'' hm => hq _ _ ?_
    obtain ⟨O', W2⟩ := W1.ref hm
    exact ⟨O', ad, adm, sh, V, L, _, _, wd, we, M, rfl, rfl, W2, hS', by omega, hk, fun e => absurd e hk0⟩
  refine i_La_isDone_ W.1 W.2.2.1 ⟨(by first | assumption | exact hch.1 | exact hch.2 | exact Nb_le r2 (by omega) | omega | rfl), (by first | assumption | exact hch.1 | exact hch.2 | exact Nb_le r2 (by omega) | omega | rfl)⟩ (Cls.monz ?_ (fun k hk0 hh f' hC => hE k f' hk0 hh.1 hh.2 hC) ⟨show (1 : Int32) ≠ 0 by decide, trivial⟩ (P_isDone hS x9))
  rintro ⟨h0, hR, hS'⟩ f' hC
  have W1 := W.out hC
  refine h 0 f' W1.hm fun Q' X' hq => i_Mo_isDone_ W1.mr (by first | assumption | exact hch.1 | exact hch.2 | exact Nb_le r2 (by omega) | omega | rfl) fun f'' hm => hq _ _ ?_
  obtain ⟨O', W2⟩ := W1.ref hm
  exact ⟨O', ad, adm, _, _, _, _, _, _, _, M, rfl, rfl, W2, hS', by omega, h0, fun _ => by show ite _ _ _ = _; rw [hR]; exact b2i_L _⟩
theorem KA_load {g : GG} {x m ao aod n : Nat} {f : AH} (H : LQ g x m ao aod n f) (hn : n < 1000) (m9 : Int32) (x9 : Int32) (y9 : Int32) (z9 : Int32) {Q : Option Value → AH → Prop} {X : String → AH → Prop} (h : ∀ (k : Int32) (f' : AH), hobj f' m 10 (fun _ => True) → (∀ (Q' : Option Value → AH → Prop) (X' : String → AH → Prop), (∀ (v : Int32) f'', PoR g x m ao aod (n + 1) k (fun wd _ => wd 0 = v.toInt64) f'' → Q' (some (.int v)) f'') → T_Mo_load [.ref m, .int m9, .int x9, .int y9, .int z9] f' Q' X') → Q (some (.int k)) f') : T_La_load g [.ref x, .int m9, .int x9, .int y9, .int z9, .ref ao] f Q X := by
  obtain ⟨O, ad, adm, sh, V, L, cm, cl, wd, we, M, rfl, rfl, W, hS, hM⟩ := H
  obtain ⟨⟨p1, p2⟩, ⟨p3, p4⟩, ⟨p5, p6, p7, p8⟩, ⟨p9, q1⟩, ⟨q2, q3, q4⟩, q5, ⟨q6, q7, q8, q9⟩, qa⟩ := hS.cp
  obtain ⟨⟨r1, r2, r3, r4⟩, r5, r6, r7, r8, r9, ra⟩ := hS.rp
  have hE : ∀ (k : Int32) (f' : AH), k ≠ 0 → (ldM cm m9 x9 y9 z9).2 49 0 0 = k → SR ((ldM cm m9 x9 y9 z9).2) (cl) sh V L M → CR g O f' ad sh V L → Q (some (.int k)) f' := by
    intro k f' hk0 hk hS' hC
    have W1 := W.same hC
    refine h k f' W1.hm fun Q' X' hq => i_Mo_load_ W1.mr ⟨(by first | assumption | exact hch.1 | exact hch.2 | exact Nb_le r2 (by omega) | omega | rfl), (by first | assumption | exact hch.1 | exact hch.2 | exact Nb_le r2 (by omega) | omega | rfl), (by first | assumption | exact hch.1 | exact hch.2 | exact Nb_le r2 (by omega) | omega | rfl)⟩ fun f'' hm => hq _ _ ?_
    obtain ⟨O', W2⟩ := W1.ref hm
    exact ⟨O', ad, adm, sh, V, L, _, _, wd, we, M, rfl, rfl, W2, hS', by omega, hk, fun e => absurd e hk0⟩
  refine i_La_load_ W.1 W.2.2.1 (ld_pre hS) (Cls.monz ?_ (fun k hk0 hh f' hC => hE k f' hk0 hh.1 hh.2 hC) ⟨show (1 : Int32) ≠ 0 by decide, show (2 : Int32) ≠ 0 by decide, trivial⟩ (P_load hS (by omega) m9 x9 y9 z9))
  rintro ⟨h0, hR, hS'⟩ f' ad' e' hC
  have W1 := W.out hC
  refine h 0 f' W1.hm fun Q' X' hq => i_Mo_load_ W1.mr ⟨(by first | assumption | exact hch.1 | exact hch.2 | exact Nb_le r2 (by omega) | omega | rfl), (by first | assumption | exact hch.1 | exact hch.2 | exact Nb_le r2 (by omega) | omega | rfl), (by first | assumption | exact hch.1 | exact hch.2 | exact Nb_le r2 (by omega) | omega | rfl)⟩ fun f'' hm => hq _ _ ?_
  obtain ⟨O', W2⟩ := W1.ref hm
  exact ⟨O', ad', adm, _, _, _, _, _, _, _, (M + 1), e', rfl, W2, hS', by omega, h0, fun _ => by rw [← hR]; rfl⟩
theorem KA_set {g : GG} {x m ao aod n : Nat} {f : AH} (H : LQ g x m ao aod n f) (hn : n < 1000) (x9 : Int32) (c9 : Int32) (v9 : Int32) {Q : Option Value → AH → Prop} {X : String → AH → Prop} (h : ∀ (k : Int32) (f' : AH), hobj f' m 10 (fun _ => True) → (∀ (Q' : Option Value → AH → Prop) (X' : String → AH → Prop), (∀ (bb : Bool) f'', PoR g x m ao aod (n + 1) k (fun wd _ => wd 0 = (b2i bb).toInt64) f'' → Q' (some (.int (b2i bb))) f'') → T_Mo_set [.ref m, .int x9, .int c9, .int v9] f' Q' X') → Q (some (.int k)) f') : T_La_set g [.ref x, .int x9, .int c9, .int v9, .ref ao] f Q X := by
  obtain ⟨O, ad, adm, sh, V, L, cm, cl, wd, we, M, rfl, rfl, W, hS, hM⟩ := H
  obtain ⟨⟨p1, p2⟩, ⟨p3, p4⟩, ⟨p5, p6, p7, p8⟩, ⟨p9, q1⟩, ⟨q2, q3, q4⟩, q5, ⟨q6, q7, q8, q9⟩, qa⟩ := hS.cp
  obtain ⟨⟨r1, r2, r3, r4⟩, r5, r6, r7, r8, r9, ra⟩ := hS.rp
  have hE : ∀ (k : Int32) (f' : AH), k ≠ 0 → (setM cm x9 c9 v9).2 49 0 0 = k → SR ((setM cm x9 c9 v9).2) (cl) sh V L M → CR g O f' ad sh V L → Q (some (.int k)) f' := by
    intro k f' hk0 hk hS' hC
    have W1 := W.same hC
    refine h k f' W1.hm fun Q' X' hq => i_Mo_set_ W1.mr (by first | assumption | exact hch.1 | exact hch.2 | exact Nb_le r2 (by omega) | omega | rfl) fun f'' hm => hq _ _ ?_
    obtain ⟨O', W2⟩ := W1.ref hm
    exact ⟨O', ad, adm, sh, V, L, _, _, wd, we, M, rfl, rfl, W2, hS', by omega, hk, fun e => absurd e hk0⟩
  refine i_La_set_ W.1 W.2.2.1 ⟨(by first | assumption | exact hch.1 | exact hch.2 | exact Nb_le r2 (by omega) | omega | rfl), (by first | assumption | exact hch.1 | exact hch.2 | exact Nb_le r2 (by omega) | omega | rfl), (by first | assumption | exact hch.1 | exact hch.2 | exact Nb_le r2 (by omega) | omega | rfl), (by first | assumption | exact hch.1 | exact hch.2 | exact Nb_le r2 (by omega) | omega | rfl), (by first | assumption | exact hch.1 | exact hch.2 | exact Nb_le r2 (by omega) | omega | rfl), (by first | assumption | exact hch.1 | exact hch.2 | exact Nb_le r2 (by omega) | omega | rfl)⟩ (Cls.monz ?_ (fun k hk0 hh f' hC => hE k f' hk0 hh.1 hh.2 hC) ⟨show (1 : Int32) ≠ 0 by decide, show (2 : Int32) ≠ 0 by decide, show (3 : Int32) ≠ 0 by decide, trivial⟩ (P_set hS (by omega) x9 c9 v9))
  rintro ⟨h0, hR, hS'⟩ f' hC
  have W1 := W.out hC
  refine h 0 f' W1.hm fun Q' X' hq => i_Mo_set_ W1.mr (by first | assumption | exact hch.1 | exact hch.2 | exact Nb_le r2 (by omega) | omega | rfl) fun f'' hm => hq _ _ ?_
  obtain ⟨O', W2⟩ := W1.ref hm
  exact ⟨O', ad, adm, _, _, _, _, _, _, _, (M + 1), rfl, rfl, W2, hS', by omega, h0, fun _ => by show ite _ _ _ = _; rw [hR]; exact b2i_L _⟩
theorem KA_clear {g : GG} {x m ao aod n : Nat} {f : AH} (H : LQ g x m ao aod n f) (hn : n < 1000) (x9 : Int32) (c9 : Int32) {Q : Option Value → AH → Prop} {X : String → AH → Prop} (h : ∀ (k : Int32) (f' : AH), hobj f' m 10 (fun _ => True) → (∀ (Q' : Option Value → AH → Prop) (X' : String → AH → Prop), (∀ (bb : Bool) f'', PoR g x m ao aod (n + 1) k (fun wd _ => wd 0 = (b2i bb).toInt64) f'' → Q' (some (.int (b2i bb))) f'') → T_Mo_clear [.ref m, .int x9, .int c9] f' Q' X') → Q (some (.int k)) f') : T_La_clear g [.ref x, .int x9, .int c9, .ref ao] f Q X := by
  obtain ⟨O, ad, adm, sh, V, L, cm, cl, wd, we, M, rfl, rfl, W, hS, hM⟩ := H
  obtain ⟨⟨p1, p2⟩, ⟨p3, p4⟩, ⟨p5, p6, p7, p8⟩, ⟨p9, q1⟩, ⟨q2, q3, q4⟩, q5, ⟨q6, q7, q8, q9⟩, qa⟩ := hS.cp
  obtain ⟨⟨r1, r2, r3, r4⟩, r5, r6, r7, r8, r9, ra⟩ := hS.rp
  have hE : ∀ (k : Int32) (f' : AH), k ≠ 0 → (clrM cm x9 c9).2 49 0 0 = k → SR ((clrM cm x9 c9).2) (cl) sh V L M → CR g O f' ad sh V L → Q (some (.int k)) f' := by
    intro k f' hk0 hk hS' hC
    have W1 := W.same hC
    refine h k f' W1.hm fun Q' X' hq => i_Mo_clear_ W1.mr (by first | assumption | exact hch.1 | exact hch.2 | exact Nb_le r2 (by omega) | omega | rfl) fun f'' hm => hq _ _ ?_
    obtain ⟨O', W2⟩ := W1.ref hm
    exact ⟨O', ad, adm, sh, V, L, _, _, wd, we, M, rfl, rfl, W2, hS', by omega, hk, fun e => absurd e hk0⟩
  refine i_La_clear_ W.1 W.2.2.1 ⟨(by first | assumption | exact hch.1 | exact hch.2 | exact Nb_le r2 (by omega) | omega | rfl), (by first | assumption | exact hch.1 | exact hch.2 | exact Nb_le r2 (by omega) | omega | rfl), (by first | assumption | exact hch.1 | exact hch.2 | exact Nb_le r2 (by omega) | omega | rfl), (by first | assumption | exact hch.1 | exact hch.2 | exact Nb_le r2 (by omega) | omega | rfl), (by first | assumption | exact hch.1 | exact hch.2 | exact Nb_le r2 (by omega) | omega | rfl), (by first | assumption | exact hch.1 | exact hch.2 | exact Nb_le r2 (by omega) | omega | rfl)⟩ (Cls.monz ?_ (fun k hk0 hh f' hC => hE k f' hk0 hh.1 hh.2 hC) ⟨show (1 : Int32) ≠ 0 by decide, show (2 : Int32) ≠ 0 by decide, trivial⟩ (P_clear hS (by omega) x9 c9))
  rintro ⟨h0, hR, hS'⟩ f' hC
  have W1 := W.out hC
  refine h 0 f' W1.hm fun Q' X' hq => i_Mo_clear_ W1.mr (by first | assumption | exact hch.1 | exact hch.2 | exact Nb_le r2 (by omega) | omega | rfl) fun f'' hm => hq _ _ ?_
  obtain ⟨O', W2⟩ := W1.ref hm
  exact ⟨O', ad, adm, _, _, _, _, _, _, _, (M + 1), rfl, rfl, W2, hS', by omega, h0, fun _ => by show ite _ _ _ = _; rw [hR]; exact b2i_L _⟩
theorem KA_valueAt {g : GG} {x m ao aod n : Nat} {f : AH} (H : LQ g x m ao aod n f) (hn : n < 1000) (x9 : Int32) (c9 : Int32) {Q : Option Value → AH → Prop} {X : String → AH → Prop} (h : ∀ (k : Int32) (f' : AH), hobj f' m 10 (fun _ => True) → (∀ (Q' : Option Value → AH → Prop) (X' : String → AH → Prop), (∀ (v : Int32) f'', PoR g x m ao aod (n + 1) k (fun wd _ => wd 0 = v.toInt64) f'' → Q' (some (.int v)) f'') → T_Mo_valueAt2 [.ref m, .int x9, .int c9] f' Q' X') → Q (some (.int k)) f') : T_La_valueAt g [.ref x, .int x9, .int c9, .ref ao] f Q X := by
  obtain ⟨O, ad, adm, sh, V, L, cm, cl, wd, we, M, rfl, rfl, W, hS, hM⟩ := H
  obtain ⟨⟨p1, p2⟩, ⟨p3, p4⟩, ⟨p5, p6, p7, p8⟩, ⟨p9, q1⟩, ⟨q2, q3, q4⟩, q5, ⟨q6, q7, q8, q9⟩, qa⟩ := hS.cp
  obtain ⟨⟨r1, r2, r3, r4⟩, r5, r6, r7, r8, r9, ra⟩ := hS.rp
  have hE : ∀ (k : Int32) (f' : AH), k ≠ 0 → (vatM cm x9 c9).2 49 0 0 = k → SR ((vatM cm x9 c9).2) (cl) sh V L M → CR g O f' ad sh V L → Q (some (.int k)) f' := by
    intro k f' hk0 hk hS' hC
    have W1 := W.same hC
    refine h k f' W1.hm fun Q' X' hq => i_Mo_valueAt2_ W1.mr (by first | assumption | exact hch.1 | exact hch.2 | exact Nb_le r2 (by omega) | omega | rfl) fun f'' hm => hq _ _ ?_
    obtain ⟨O', W2⟩ := W1.ref hm
    exact ⟨O', ad, adm, sh, V, L, _, _, wd, we, M, rfl, rfl, W2, hS', by omega, hk, fun e => absurd e hk0⟩
  refine i_La_valueAt_ W.1 W.2.2.1 (by first | assumption | exact hch.1 | exact hch.2 | exact Nb_le r2 (by omega) | omega | rfl) (Cls.monz ?_ (fun k hk0 hh f' hC => hE k f' hk0 hh.1 hh.2 hC) ⟨show (1 : Int32) ≠ 0 by decide, show (2 : Int32) ≠ 0 by decide, trivial⟩ (P_valueAt hS x9 c9))
  rintro ⟨h0, hR, hS'⟩ f' hC
  have W1 := W.out hC
  refine h 0 f' W1.hm fun Q' X' hq => i_Mo_valueAt2_ W1.mr (by first | assumption | exact hch.1 | exact hch.2 | exact Nb_le r2 (by omega) | omega | rfl) fun f'' hm => hq _ _ ?_
  obtain ⟨O', W2⟩ := W1.ref hm
  exact ⟨O', ad, adm, _, _, _, _, _, _, _, M, rfl, rfl, W2, hS', by omega, h0, fun _ => by rw [← hR]; rfl⟩
theorem KA_encoding {g : GG} {x m ao aod n : Nat} {f : AH} (H : LQ g x m ao aod n f) (hn : n < 1000) (x9 : Int32) (c9 : Int32) {Q : Option Value → AH → Prop} {X : String → AH → Prop} (h : ∀ (k : Int32) (f' : AH), hobj f' m 10 (fun _ => True) → (∀ (Q' : Option Value → AH → Prop) (X' : String → AH → Prop), (∀ (v : Int32) f'', PoR g x m ao aod (n + 1) k (fun wd _ => wd 0 = v.toInt64) f'' → Q' (some (.int v)) f'') → T_Mo_encoding [.ref m, .int x9, .int c9] f' Q' X') → Q (some (.int k)) f') : T_La_encoding g [.ref x, .int x9, .int c9, .ref ao] f Q X := by
  obtain ⟨O, ad, adm, sh, V, L, cm, cl, wd, we, M, rfl, rfl, W, hS, hM⟩ := H
  obtain ⟨⟨p1, p2⟩, ⟨p3, p4⟩, ⟨p5, p6, p7, p8⟩, ⟨p9, q1⟩, ⟨q2, q3, q4⟩, q5, ⟨q6, q7, q8, q9⟩, qa⟩ := hS.cp
  obtain ⟨⟨r1, r2, r3, r4⟩, r5, r6, r7, r8, r9, ra⟩ := hS.rp
  have hE : ∀ (k : Int32) (f' : AH), k ≠ 0 → thr cm (noPlace cm x9 c9) 1 49 0 0 = k → SR (thr cm (noPlace cm x9 c9) 1) (cl) sh V L M → CR g O f' ad sh V L → Q (some (.int k)) f' := by
    intro k f' hk0 hk hS' hC
    have W1 := W.same hC
    refine h k f' W1.hm fun Q' X' hq => i_Mo_encoding_ W1.mr ⟨(by first | assumption | exact hch.1 | exact hch.2 | exact Nb_le r2 (by omega) | omega | rfl), (by first | assumption | exact hch.1 | exact hch.2 | exact Nb_le r2 (by omega) | omega | rfl)⟩ fun f'' hm => hq _ _ ?_
    obtain ⟨O', W2⟩ := W1.ref hm
    exact ⟨O', ad, adm, sh, V, L, _, _, wd, we, M, rfl, rfl, W2, hS', by omega, hk, fun e => absurd e hk0⟩
  refine i_La_encoding_ W.1 W.2.2.1 ⟨(by first | assumption | exact hch.1 | exact hch.2 | exact Nb_le r2 (by omega) | omega | rfl), (by first | assumption | exact hch.1 | exact hch.2 | exact Nb_le r2 (by omega) | omega | rfl), (by first | assumption | exact hch.1 | exact hch.2 | exact Nb_le r2 (by omega) | omega | rfl)⟩ (Cls.monz ?_ (fun k hk0 hh f' hC => hE k f' hk0 hh.1 hh.2 hC) ⟨show (1 : Int32) ≠ 0 by decide, trivial⟩ (P_encoding hS x9 c9))
  rintro ⟨h0, hR, hS'⟩ f' hC
  have W1 := W.out hC
  refine h 0 f' W1.hm fun Q' X' hq => i_Mo_encoding_ W1.mr ⟨(by first | assumption | exact hch.1 | exact hch.2 | exact Nb_le r2 (by omega) | omega | rfl), (by first | assumption | exact hch.1 | exact hch.2 | exact Nb_le r2 (by omega) | omega | rfl)⟩ fun f'' hm => hq _ _ ?_
  obtain ⟨O', W2⟩ := W1.ref hm
  exact ⟨O', ad, adm, _, _, _, _, _, _, _, M, rfl, rfl, W2, hS', by omega, h0, fun _ => by rw [← hR]; rfl⟩
theorem KA_bits {g : GG} {x m ao aod n : Nat} {f : AH} (H : LQ g x m ao aod n f) (hn : n < 1000) (x9 : Int32) (c9 : Int32) {Q : Option Value → AH → Prop} {X : String → AH → Prop} (h : ∀ (k : Int32) (f' : AH), hobj f' m 10 (fun _ => True) → (∀ (Q' : Option Value → AH → Prop) (X' : String → AH → Prop), (∀ (v : Int32) f'', PoR g x m ao aod (n + 1) k (fun wd _ => wd 0 = v.toInt64) f'' → Q' (some (.int v)) f'') → T_Mo_bits [.ref m, .int x9, .int c9] f' Q' X') → Q (some (.int k)) f') : T_La_bits g [.ref x, .int x9, .int c9, .ref ao] f Q X := by
  obtain ⟨O, ad, adm, sh, V, L, cm, cl, wd, we, M, rfl, rfl, W, hS, hM⟩ := H
  obtain ⟨⟨p1, p2⟩, ⟨p3, p4⟩, ⟨p5, p6, p7, p8⟩, ⟨p9, q1⟩, ⟨q2, q3, q4⟩, q5, ⟨q6, q7, q8, q9⟩, qa⟩ := hS.cp
  obtain ⟨⟨r1, r2, r3, r4⟩, r5, r6, r7, r8, r9, ra⟩ := hS.rp
  have hE : ∀ (k : Int32) (f' : AH), k ≠ 0 → thr cm (noPlace cm x9 c9) 1 49 0 0 = k → SR (thr cm (noPlace cm x9 c9) 1) (cl) sh V L M → CR g O f' ad sh V L → Q (some (.int k)) f' := by
    intro k f' hk0 hk hS' hC
    have W1 := W.same hC
    refine h k f' W1.hm fun Q' X' hq => i_Mo_bits_ W1.mr ⟨(by first | assumption | exact hch.1 | exact hch.2 | exact Nb_le r2 (by omega) | omega | rfl), (by first | assumption | exact hch.1 | exact hch.2 | exact Nb_le r2 (by omega) | omega | rfl)⟩ fun f'' hm => hq _ _ ?_
    obtain ⟨O', W2⟩ := W1.ref hm
    exact ⟨O', ad, adm, sh, V, L, _, _, wd, we, M, rfl, rfl, W2, hS', by omega, hk, fun e => absurd e hk0⟩
  refine i_La_bits_ W.1 W.2.2.1 ⟨(by first | assumption | exact hch.1 | exact hch.2 | exact Nb_le r2 (by omega) | omega | rfl), (by first | assumption | exact hch.1 | exact hch.2 | exact Nb_le r2 (by omega) | omega | rfl), (by first | assumption | exact hch.1 | exact hch.2 | exact Nb_le r2 (by omega) | omega | rfl)⟩ (Cls.monz ?_ (fun k hk0 hh f' hC => hE k f' hk0 hh.1 hh.2 hC) ⟨show (1 : Int32) ≠ 0 by decide, trivial⟩ (P_bits hS x9 c9))
  rintro ⟨h0, hR, hS'⟩ f' hC
  have W1 := W.out hC
  refine h 0 f' W1.hm fun Q' X' hq => i_Mo_bits_ W1.mr ⟨(by first | assumption | exact hch.1 | exact hch.2 | exact Nb_le r2 (by omega) | omega | rfl), (by first | assumption | exact hch.1 | exact hch.2 | exact Nb_le r2 (by omega) | omega | rfl)⟩ fun f'' hm => hq _ _ ?_
  obtain ⟨O', W2⟩ := W1.ref hm
  exact ⟨O', ad, adm, _, _, _, _, _, _, _, M, rfl, rfl, W2, hS', by omega, h0, fun _ => by rw [← hR]; rfl⟩
theorem KA_changes {g : GG} {x m ao aod n : Nat} {f : AH} (H : LQ g x m ao aod n f) (hn : n < 1000) (x9 : Int32) {Q : Option Value → AH → Prop} {X : String → AH → Prop} (h : ∀ (k : Int32) (f' : AH), hobj f' m 10 (fun _ => True) → (∀ (Q' : Option Value → AH → Prop) (X' : String → AH → Prop), (∀ (v : Int32) f'', PoR g x m ao aod (n + 1) k (fun wd _ => wd 0 = v.toInt64) f'' → Q' (some (.int v)) f'') → T_Mo_changes [.ref m, .int x9] f' Q' X') → Q (some (.int k)) f') : T_La_changes g [.ref x, .int x9, .ref ao] f Q X := by
  obtain ⟨O, ad, adm, sh, V, L, cm, cl, wd, we, M, rfl, rfl, W, hS, hM⟩ := H
  obtain ⟨⟨p1, p2⟩, ⟨p3, p4⟩, ⟨p5, p6, p7, p8⟩, ⟨p9, q1⟩, ⟨q2, q3, q4⟩, q5, ⟨q6, q7, q8, q9⟩, qa⟩ := hS.cp
  obtain ⟨⟨r1, r2, r3, r4⟩, r5, r6, r7, r8, r9, ra⟩ := hS.rp
  have hE : ∀ (k : Int32) (f' : AH), k ≠ 0 → thr cm (noChunk cm x9) 1 49 0 0 = k → SR (thr cm (noChunk cm x9) 1) (cl) sh V L M → CR g O f' ad sh V L → Q (some (.int k)) f' := by
    intro k f' hk0 hk hS' hC
    have W1 := W.same hC
    refine h k f' W1.hm fun Q' X' hq => i_Mo_changes_ W1.mr (by first | assumption | exact hch.1 | exact hch.2 | exact Nb_le r2 (by omega) | omega | rfl) fun f'' hm => hq _ _ ?_
    obtain ⟨O', W2⟩ := W1.ref hm
    exact ⟨O', ad, adm, sh, V, L, _, _, wd, we, M, rfl, rfl, W2, hS', by omega, hk, fun e => absurd e hk0⟩
  refine i_La_changes_ W.1 W.2.2.1 ⟨(by first | assumption | exact hch.1 | exact hch.2 | exact Nb_le r2 (by omega) | omega | rfl), (by first | assumption | exact hch.1 | exact hch.2 | exact Nb_le r2 (by omega) | omega | rfl)⟩ (Cls.monz ?_ (fun k hk0 hh f' hC => hE k f' hk0 hh.1 hh.2 hC) ⟨show (1 : Int32) ≠ 0 by decide, trivial⟩ (P_changes hS x9))
  rintro ⟨h0, hR, hS'⟩ f' hC
  have W1 := W.out hC
  refine h 0 f' W1.hm fun Q' X' hq => i_Mo_changes_ W1.mr (by first | assumption | exact hch.1 | exact hch.2 | exact Nb_le r2 (by omega) | omega | rfl) fun f'' hm => hq _ _ ?_
  obtain ⟨O', W2⟩ := W1.ref hm
  exact ⟨O', ad, adm, _, _, _, _, _, _, _, M, rfl, rfl, W2, hS', by omega, h0, fun _ => by rw [← hR]; rfl⟩
theorem KA_least {g : GG} {x m ao aod n : Nat} {f : AH} (H : LQ g x m ao aod n f) (hn : n < 1000) (x9 : Int32) (c9 : Int32) {Q : Option Value → AH → Prop} {X : String → AH → Prop} (h : ∀ (k : Int32) (f' : AH), hobj f' m 10 (fun _ => True) → (∀ (Q' : Option Value → AH → Prop) (X' : String → AH → Prop), (∀ (v : Int32) f'', PoR g x m ao aod (n + 1) k (fun wd _ => wd 0 = v.toInt64) f'' → Q' (some (.int v)) f'') → T_Mo_least [.ref m, .int x9, .int c9] f' Q' X') → Q (some (.int k)) f') : T_La_least g [.ref x, .int x9, .int c9, .ref ao] f Q X := by
  obtain ⟨O, ad, adm, sh, V, L, cm, cl, wd, we, M, rfl, rfl, W, hS, hM⟩ := H
  obtain ⟨⟨p1, p2⟩, ⟨p3, p4⟩, ⟨p5, p6, p7, p8⟩, ⟨p9, q1⟩, ⟨q2, q3, q4⟩, q5, ⟨q6, q7, q8, q9⟩, qa⟩ := hS.cp
  obtain ⟨⟨r1, r2, r3, r4⟩, r5, r6, r7, r8, r9, ra⟩ := hS.rp
  have hE : ∀ (k : Int32) (f' : AH), k ≠ 0 → (leastM 14 cm x9 c9).2 49 0 0 = k → SR ((leastM 14 cm x9 c9).2) (cl) sh V L M → CR g O f' ad sh V L → Q (some (.int k)) f' := by
    intro k f' hk0 hk hS' hC
    have W1 := W.same hC
    refine h k f' W1.hm fun Q' X' hq => i_Mo_least_ W1.mr (by first | assumption | exact hch.1 | exact hch.2 | exact Nb_le r2 (by omega) | omega | rfl) fun f'' hm => hq _ _ ?_
    obtain ⟨O', W2⟩ := W1.ref hm
    exact ⟨O', ad, adm, sh, V, L, _, _, wd, we, M, rfl, rfl, W2, hS', by omega, hk, fun e => absurd e hk0⟩
  refine i_La_least_ W.1 W.2.2.1 ⟨(by first | assumption | exact hch.1 | exact hch.2 | exact Nb_le r2 (by omega) | omega | rfl), (by first | assumption | exact hch.1 | exact hch.2 | exact Nb_le r2 (by omega) | omega | rfl), (by first | assumption | exact hch.1 | exact hch.2 | exact Nb_le r2 (by omega) | omega | rfl)⟩ (Cls.monz ?_ (fun k hk0 hh f' hC => hE k f' hk0 hh.1 hh.2 hC) ⟨show (1 : Int32) ≠ 0 by decide, show (2 : Int32) ≠ 0 by decide, trivial⟩ (P_least hS x9 c9))
  rintro ⟨h0, hR, hS'⟩ f' hC
  have W1 := W.out hC
  refine h 0 f' W1.hm fun Q' X' hq => i_Mo_least_ W1.mr (by first | assumption | exact hch.1 | exact hch.2 | exact Nb_le r2 (by omega) | omega | rfl) fun f'' hm => hq _ _ ?_
  obtain ⟨O', W2⟩ := W1.ref hm
  exact ⟨O', ad, adm, _, _, _, _, _, _, _, M, rfl, rfl, W2, hS', by omega, h0, fun _ => by rw [← hR]; rfl⟩
theorem KA_greatest {g : GG} {x m ao aod n : Nat} {f : AH} (H : LQ g x m ao aod n f) (hn : n < 1000) (x9 : Int32) (c9 : Int32) {Q : Option Value → AH → Prop} {X : String → AH → Prop} (h : ∀ (k : Int32) (f' : AH), hobj f' m 10 (fun _ => True) → (∀ (Q' : Option Value → AH → Prop) (X' : String → AH → Prop), (∀ (v : Int32) f'', PoR g x m ao aod (n + 1) k (fun wd _ => wd 0 = v.toInt64) f'' → Q' (some (.int v)) f'') → T_Mo_greatest [.ref m, .int x9, .int c9] f' Q' X') → Q (some (.int k)) f') : T_La_greatest g [.ref x, .int x9, .int c9, .ref ao] f Q X := by
  obtain ⟨O, ad, adm, sh, V, L, cm, cl, wd, we, M, rfl, rfl, W, hS, hM⟩ := H
  obtain ⟨⟨p1, p2⟩, ⟨p3, p4⟩, ⟨p5, p6, p7, p8⟩, ⟨p9, q1⟩, ⟨q2, q3, q4⟩, q5, ⟨q6, q7, q8, q9⟩, qa⟩ := hS.cp
  obtain ⟨⟨r1, r2, r3, r4⟩, r5, r6, r7, r8, r9, ra⟩ := hS.rp
  have hE : ∀ (k : Int32) (f' : AH), k ≠ 0 → (leastM 15 cm x9 c9).2 49 0 0 = k → SR ((leastM 15 cm x9 c9).2) (cl) sh V L M → CR g O f' ad sh V L → Q (some (.int k)) f' := by
    intro k f' hk0 hk hS' hC
    have W1 := W.same hC
    refine h k f' W1.hm fun Q' X' hq => i_Mo_greatest_ W1.mr (by first | assumption | exact hch.1 | exact hch.2 | exact Nb_le r2 (by omega) | omega | rfl) fun f'' hm => hq _ _ ?_
    obtain ⟨O', W2⟩ := W1.ref hm
    exact ⟨O', ad, adm, sh, V, L, _, _, wd, we, M, rfl, rfl, W2, hS', by omega, hk, fun e => absurd e hk0⟩
  refine i_La_greatest_ W.1 W.2.2.1 ⟨(by first | assumption | exact hch.1 | exact hch.2 | exact Nb_le r2 (by omega) | omega | rfl), (by first | assumption | exact hch.1 | exact hch.2 | exact Nb_le r2 (by omega) | omega | rfl), (by first | assumption | exact hch.1 | exact hch.2 | exact Nb_le r2 (by omega) | omega | rfl)⟩ (Cls.monz ?_ (fun k hk0 hh f' hC => hE k f' hk0 hh.1 hh.2 hC) ⟨show (1 : Int32) ≠ 0 by decide, show (2 : Int32) ≠ 0 by decide, trivial⟩ (P_greatest hS x9 c9))
  rintro ⟨h0, hR, hS'⟩ f' hC
  have W1 := W.out hC
  refine h 0 f' W1.hm fun Q' X' hq => i_Mo_greatest_ W1.mr (by first | assumption | exact hch.1 | exact hch.2 | exact Nb_le r2 (by omega) | omega | rfl) fun f'' hm => hq _ _ ?_
  obtain ⟨O', W2⟩ := W1.ref hm
  exact ⟨O', ad, adm, _, _, _, _, _, _, _, M, rfl, rfl, W2, hS', by omega, h0, fun _ => by rw [← hR]; rfl⟩
theorem KA_mayMiss {g : GG} {x m ao aod n : Nat} {f : AH} (H : LQ g x m ao aod n f) (hn : n < 1000) (x9 : Int32) (c9 : Int32) {Q : Option Value → AH → Prop} {X : String → AH → Prop} (h : ∀ (k : Int32) (f' : AH), hobj f' m 10 (fun _ => True) → (∀ (Q' : Option Value → AH → Prop) (X' : String → AH → Prop), (∀ (bb : Bool) f'', PoR g x m ao aod (n + 1) k (fun wd _ => wd 0 = (b2i bb).toInt64) f'' → Q' (some (.int (b2i bb))) f'') → T_Mo_mayMiss [.ref m, .int x9, .int c9] f' Q' X') → Q (some (.int k)) f') : T_La_mayMiss g [.ref x, .int x9, .int c9, .ref ao] f Q X := by
  obtain ⟨O, ad, adm, sh, V, L, cm, cl, wd, we, M, rfl, rfl, W, hS, hM⟩ := H
  obtain ⟨⟨p1, p2⟩, ⟨p3, p4⟩, ⟨p5, p6, p7, p8⟩, ⟨p9, q1⟩, ⟨q2, q3, q4⟩, q5, ⟨q6, q7, q8, q9⟩, qa⟩ := hS.cp
  obtain ⟨⟨r1, r2, r3, r4⟩, r5, r6, r7, r8, r9, ra⟩ := hS.rp
  have hE : ∀ (k : Int32) (f' : AH), k ≠ 0 → thr cm (noPlace cm x9 c9) 1 49 0 0 = k → SR (thr cm (noPlace cm x9 c9) 1) (cl) sh V L M → CR g O f' ad sh V L → Q (some (.int k)) f' := by
    intro k f' hk0 hk hS' hC
    have W1 := W.same hC
    refine h k f' W1.hm fun Q' X' hq => i_Mo_mayMiss_ W1.mr (by first | assumption | exact hch.1 | exact hch.2 | exact Nb_le r2 (by omega) | omega | rfl) fun f'' hm => hq _ _ ?_
    obtain ⟨O', W2⟩ := W1.ref hm
    exact ⟨O', ad, adm, sh, V, L, _, _, wd, we, M, rfl, rfl, W2, hS', by omega, hk, fun e => absurd e hk0⟩
  refine i_La_mayMiss_ W.1 W.2.2.1 ⟨(by first | assumption | exact hch.1 | exact hch.2 | exact Nb_le r2 (by omega) | omega | rfl), (by first | assumption | exact hch.1 | exact hch.2 | exact Nb_le r2 (by omega) | omega | rfl), (by first | assumption | exact hch.1 | exact hch.2 | exact Nb_le r2 (by omega) | omega | rfl)⟩ (Cls.monz ?_ (fun k hk0 hh f' hC => hE k f' hk0 hh.1 hh.2 hC) ⟨show (1 : Int32) ≠ 0 by decide, trivial⟩ (P_mayMiss hS x9 c9))
  rintro ⟨h0, hR, hS'⟩ f' hC
  have W1 := W.out hC
  refine h 0 f' W1.hm fun Q' X' hq => i_Mo_mayMiss_ W1.mr (by first | assumption | exact hch.1 | exact hch.2 | exact Nb_le r2 (by omega) | omega | rfl) fun f'' hm => hq _ _ ?_
  obtain ⟨O', W2⟩ := W1.ref hm
  exact ⟨O', ad, adm, _, _, _, _, _, _, _, M, rfl, rfl, W2, hS', by omega, h0, fun _ => by show ite _ _ _ = _; rw [hR]; exact b2i_L _⟩
theorem KA_mend {g : GG} {x m ao aod n : Nat} {f : AH} (H : LQ g x m ao aod n f) (hn : n < 1000) (x9 : Int32) {Q : Option Value → AH → Prop} {X : String → AH → Prop} (h : ∀ (k : Int32) (f' : AH), hobj f' m 10 (fun _ => True) → (∀ (Q' : Option Value → AH → Prop) (X' : String → AH → Prop), (∀ (v : Int32) f'', PoR g x m ao aod (n + 1) k (fun wd _ => wd 0 = v.toInt64) f'' → Q' (some (.int v)) f'') → T_Mo_mend [.ref m, .int x9] f' Q' X') → Q (some (.int k)) f') : T_La_mend g [.ref x, .int x9, .ref ao] f Q X := by
  obtain ⟨O, ad, adm, sh, V, L, cm, cl, wd, we, M, rfl, rfl, W, hS, hM⟩ := H
  obtain ⟨⟨p1, p2⟩, ⟨p3, p4⟩, ⟨p5, p6, p7, p8⟩, ⟨p9, q1⟩, ⟨q2, q3, q4⟩, q5, ⟨q6, q7, q8, q9⟩, qa⟩ := hS.cp
  obtain ⟨⟨r1, r2, r3, r4⟩, r5, r6, r7, r8, r9, ra⟩ := hS.rp
  have hE : ∀ (k : Int32) (f' : AH), k ≠ 0 → (mdM cm x9).2 49 0 0 = k → SR ((mdM cm x9).2) (cl) sh V L M → CR g O f' ad sh V L → Q (some (.int k)) f' := by
    intro k f' hk0 hk hS' hC
    have W1 := W.same hC
    refine h k f' W1.hm fun Q' X' hq => i_Mo_mend_ W1.mr ⟨(by first | assumption | exact hch.1 | exact hch.2 | exact Nb_le r2 (by omega) | omega | rfl), (by first | assumption | exact hch.1 | exact hch.2 | exact Nb_le r2 (by omega) | omega | rfl), (by first | assumption | exact hch.1 | exact hch.2 | exact Nb_le r2 (by omega) | omega | rfl)⟩ fun f'' hm => hq _ _ ?_
    obtain ⟨O', W2⟩ := W1.ref hm
    exact ⟨O', ad, adm, sh, V, L, _, _, wd, we, M, rfl, rfl, W2, hS', by omega, hk, fun e => absurd e hk0⟩
  refine i_La_mend_ W.1 W.2.2.1 ⟨(by first | assumption | exact hch.1 | exact hch.2 | exact Nb_le r2 (by omega) | omega | rfl), (by first | assumption | exact hch.1 | exact hch.2 | exact Nb_le r2 (by omega) | omega | rfl), (by first | assumption | exact hch.1 | exact hch.2 | exact Nb_le r2 (by omega) | omega | rfl), (by first | assumption | exact hch.1 | exact hch.2 | exact Nb_le r2 (by omega) | omega | rfl), (by first | assumption | exact hch.1 | exact hch.2 | exact Nb_le r2 (by omega) | omega | rfl), (by first | assumption | exact hch.1 | exact hch.2 | exact Nb_le r2 (by omega) | omega | rfl), (by first | assumption | exact hch.1 | exact hch.2 | exact Nb_le r2 (by omega) | omega | rfl), (by first | assumption | exact hch.1 | exact hch.2 | exact Nb_le r2 (by omega) | omega | rfl)⟩ (Cls.monz ?_ (fun k hk0 hh f' hC => hE k f' hk0 hh.1 hh.2 hC) ⟨show (1 : Int32) ≠ 0 by decide, show (2 : Int32) ≠ 0 by decide, trivial⟩ (P_mend hS x9))
  rintro ⟨h0, hR, hS'⟩ f' hC
  have W1 := W.out hC
  refine h 0 f' W1.hm fun Q' X' hq => i_Mo_mend_ W1.mr ⟨(by first | assumption | exact hch.1 | exact hch.2 | exact Nb_le r2 (by omega) | omega | rfl), (by first | assumption | exact hch.1 | exact hch.2 | exact Nb_le r2 (by omega) | omega | rfl), (by first | assumption | exact hch.1 | exact hch.2 | exact Nb_le r2 (by omega) | omega | rfl)⟩ fun f'' hm => hq _ _ ?_
  obtain ⟨O', W2⟩ := W1.ref hm
  exact ⟨O', ad, adm, _, _, _, _, _, _, _, M, rfl, rfl, W2, hS', by omega, h0, fun _ => by rw [← hR]; rfl⟩
theorem KA_compare {g : GG} {x m ao aod n : Nat} {f : AH} (H : LQ g x m ao aod n f) (hn : n < 1000) (k9 : Int32) (c9 : Int32) (n9 : Int32) (hch : isCh k9 ∧ isChI k9) {Q : Option Value → AH → Prop} {X : String → AH → Prop} (h : ∀ (k : Int32) (f' : AH), hobj f' m 10 (fun _ => True) → (∀ (Q' : Option Value → AH → Prop) (X' : String → AH → Prop), (∀ (v : Int32) f'', PoR g x m ao aod (n + 1) k (fun wd _ => wd 0 = v.toInt64) f'' → Q' (some (.int v)) f'') → T_Mo_compare [.ref m, .int k9, .int c9, .int n9] f' Q' X') → Q (some (.int k)) f') : T_La_compare g [.ref x, .int k9, .int c9, .int n9, .ref ao] f Q X := by
  obtain ⟨O, ad, adm, sh, V, L, cm, cl, wd, we, M, rfl, rfl, W, hS, hM⟩ := H
  obtain ⟨⟨p1, p2⟩, ⟨p3, p4⟩, ⟨p5, p6, p7, p8⟩, ⟨p9, q1⟩, ⟨q2, q3, q4⟩, q5, ⟨q6, q7, q8, q9⟩, qa⟩ := hS.cp
  obtain ⟨⟨r1, r2, r3, r4⟩, r5, r6, r7, r8, r9, ra⟩ := hS.rp
  have hE : ∀ (k : Int32) (f' : AH), k ≠ 0 → (cmpM cm k9 c9 n9).2 49 0 0 = k → SR ((cmpM cm k9 c9 n9).2) (cl) sh V L M → CR g O f' ad sh V L → Q (some (.int k)) f' := by
    intro k f' hk0 hk hS' hC
    have W1 := W.same hC
    refine h k f' W1.hm fun Q' X' hq => i_Mo_compare_ W1.mr ⟨(by first | assumption | exact hch.1 | exact hch.2 | exact Nb_le r2 (by omega) | omega | rfl), (by first | assumption | exact hch.1 | exact hch.2 | exact Nb_le r2 (by omega) | omega | rfl)⟩ fun f'' hm => hq _ _ ?_
    obtain ⟨O', W2⟩ := W1.ref hm
    exact ⟨O', ad, adm, sh, V, L, _, _, wd, we, M, rfl, rfl, W2, hS', by omega, hk, fun e => absurd e hk0⟩
  refine i_La_compare_ W.1 W.2.2.1 ⟨(by first | assumption | exact hch.1 | exact hch.2 | exact Nb_le r2 (by omega) | omega | rfl), (by first | assumption | exact hch.1 | exact hch.2 | exact Nb_le r2 (by omega) | omega | rfl), (by first | assumption | exact hch.1 | exact hch.2 | exact Nb_le r2 (by omega) | omega | rfl)⟩ (Cls.monz ?_ (fun k hk0 hh f' hC => hE k f' hk0 hh.1 hh.2 hC) ⟨show (1 : Int32) ≠ 0 by decide, show (2 : Int32) ≠ 0 by decide, trivial⟩ (P_compare hS k9 c9 n9))
  rintro ⟨h0, hR, hS'⟩ f' ad' e' hC
  have W1 := W.out hC
  refine h 0 f' W1.hm fun Q' X' hq => i_Mo_compare_ W1.mr ⟨(by first | assumption | exact hch.1 | exact hch.2 | exact Nb_le r2 (by omega) | omega | rfl), (by first | assumption | exact hch.1 | exact hch.2 | exact Nb_le r2 (by omega) | omega | rfl)⟩ fun f'' hm => hq _ _ ?_
  obtain ⟨O', W2⟩ := W1.ref hm
  exact ⟨O', ad', adm, _, _, _, _, _, _, _, M, e', rfl, W2, hS', by omega, h0, fun _ => by rw [← hR]; rfl⟩
theorem KA_join {g : GG} {x m ao aod n : Nat} {f : AH} (H : LQ g x m ao aod n f) (hn : n < 1000) (k9 : Int32) (x9 : Int32) (y9 : Int32) (hch : isCh k9 ∧ isChI k9) {Q : Option Value → AH → Prop} {X : String → AH → Prop} (h : ∀ (k : Int32) (f' : AH), hobj f' m 10 (fun _ => True) → (∀ (Q' : Option Value → AH → Prop) (X' : String → AH → Prop), (∀ (v : Int32) f'', PoR g x m ao aod (n + 1) k (fun wd _ => wd 0 = v.toInt64) f'' → Q' (some (.int v)) f'') → T_Mo_join [.ref m, .int k9, .int x9, .int y9] f' Q' X') → Q (some (.int k)) f') : T_La_join g [.ref x, .int k9, .int x9, .int y9, .ref ao] f Q X := by
  obtain ⟨O, ad, adm, sh, V, L, cm, cl, wd, we, M, rfl, rfl, W, hS, hM⟩ := H
  obtain ⟨⟨p1, p2⟩, ⟨p3, p4⟩, ⟨p5, p6, p7, p8⟩, ⟨p9, q1⟩, ⟨q2, q3, q4⟩, q5, ⟨q6, q7, q8, q9⟩, qa⟩ := hS.cp
  obtain ⟨⟨r1, r2, r3, r4⟩, r5, r6, r7, r8, r9, ra⟩ := hS.rp
  have hE : ∀ (k : Int32) (f' : AH), k ≠ 0 → (joinM cm k9 x9 y9).2 49 0 0 = k → SR ((joinM cm k9 x9 y9).2) (cl) sh V L M → CR g O f' ad sh V L → Q (some (.int k)) f' := by
    intro k f' hk0 hk hS' hC
    have W1 := W.same hC
    refine h k f' W1.hm fun Q' X' hq => i_Mo_join_ W1.mr ⟨(by first | assumption | exact hch.1 | exact hch.2 | exact Nb_le r2 (by omega) | omega | rfl), (by first | assumption | exact hch.1 | exact hch.2 | exact Nb_le r2 (by omega) | omega | rfl)⟩ fun f'' hm => hq _ _ ?_
    obtain ⟨O', W2⟩ := W1.ref hm
    exact ⟨O', ad, adm, sh, V, L, _, _, wd, we, M, rfl, rfl, W2, hS', by omega, hk, fun e => absurd e hk0⟩
  refine i_La_join_ W.1 W.2.2.1 ⟨(by first | assumption | exact hch.1 | exact hch.2 | exact Nb_le r2 (by omega) | omega | rfl), (by first | assumption | exact hch.1 | exact hch.2 | exact Nb_le r2 (by omega) | omega | rfl), (by first | assumption | exact hch.1 | exact hch.2 | exact Nb_le r2 (by omega) | omega | rfl)⟩ (Cls.monz ?_ (fun k hk0 hh f' hC => hE k f' hk0 hh.1 hh.2 hC) ⟨show (1 : Int32) ≠ 0 by decide, show (2 : Int32) ≠ 0 by decide, show (3 : Int32) ≠ 0 by decide, trivial⟩ (P_join hS k9 x9 y9))
  rintro ⟨h0, hR, hS'⟩ f' ad' e' hC
  have W1 := W.out hC
  refine h 0 f' W1.hm fun Q' X' hq => i_Mo_join_ W1.mr ⟨(by first | assumption | exact hch.1 | exact hch.2 | exact Nb_le r2 (by omega) | omega | rfl), (by first | assumption | exact hch.1 | exact hch.2 | exact Nb_le r2 (by omega) | omega | rfl)⟩ fun f'' hm => hq _ _ ?_
  obtain ⟨O', W2⟩ := W1.ref hm
  exact ⟨O', ad', adm, _, _, _, _, _, _, _, M, e', rfl, W2, hS', by omega, h0, fun _ => by rw [← hR]; rfl⟩
theorem KA_canBe {g : GG} {x m ao aod n : Nat} {f : AH} (H : LQ g x m ao aod n f) (hn : n < 1000) (x9 : Int32) (y9 : Int32) {Q : Option Value → AH → Prop} {X : String → AH → Prop} (h : ∀ (k : Int32) (f' : AH), hobj f' m 10 (fun _ => True) → (∀ (Q' : Option Value → AH → Prop) (X' : String → AH → Prop), (∀ (v : Int32) f'', PoR g x m ao aod (n + 1) k (fun wd _ => wd 0 = v.toInt64) f'' → Q' (some (.int v)) f'') → T_Mo_canBe [.ref m, .int x9, .int y9] f' Q' X') → Q (some (.int k)) f') : T_La_canBe g [.ref x, .int x9, .int y9, .ref ao] f Q X := by
  obtain ⟨O, ad, adm, sh, V, L, cm, cl, wd, we, M, rfl, rfl, W, hS, hM⟩ := H
  obtain ⟨⟨p1, p2⟩, ⟨p3, p4⟩, ⟨p5, p6, p7, p8⟩, ⟨p9, q1⟩, ⟨q2, q3, q4⟩, q5, ⟨q6, q7, q8, q9⟩, qa⟩ := hS.cp
  obtain ⟨⟨r1, r2, r3, r4⟩, r5, r6, r7, r8, r9, ra⟩ := hS.rp
  have hE : ∀ (k : Int32) (f' : AH), k ≠ 0 → (cbM cm x9 y9).2 49 0 0 = k → SR ((cbM cm x9 y9).2) (cl) sh V L M → CR g O f' ad sh V L → Q (some (.int k)) f' := by
    intro k f' hk0 hk hS' hC
    have W1 := W.same hC
    refine h k f' W1.hm fun Q' X' hq => i_Mo_canBe_ W1.mr ⟨(by first | assumption | exact hch.1 | exact hch.2 | exact Nb_le r2 (by omega) | omega | rfl), (by first | assumption | exact hch.1 | exact hch.2 | exact Nb_le r2 (by omega) | omega | rfl), (by first | assumption | exact hch.1 | exact hch.2 | exact Nb_le r2 (by omega) | omega | rfl)⟩ fun f'' hm => hq _ _ ?_
    obtain ⟨O', W2⟩ := W1.ref hm
    exact ⟨O', ad, adm, sh, V, L, _, _, wd, we, M, rfl, rfl, W2, hS', by omega, hk, fun e => absurd e hk0⟩
  refine i_La_canBe_ W.1 W.2.2.1 ⟨(by first | assumption | exact hch.1 | exact hch.2 | exact Nb_le r2 (by omega) | omega | rfl), (by first | assumption | exact hch.1 | exact hch.2 | exact Nb_le r2 (by omega) | omega | rfl), (by first | assumption | exact hch.1 | exact hch.2 | exact Nb_le r2 (by omega) | omega | rfl), (by first | assumption | exact hch.1 | exact hch.2 | exact Nb_le r2 (by omega) | omega | rfl), (by first | assumption | exact hch.1 | exact hch.2 | exact Nb_le r2 (by omega) | omega | rfl)⟩ (Cls.monz ?_ (fun k hk0 hh f' hC => hE k f' hk0 hh.1 hh.2 hC) ⟨show (1 : Int32) ≠ 0 by decide, show (2 : Int32) ≠ 0 by decide, trivial⟩ (P_canBe hS x9 y9))
  rintro ⟨h0, hR, hS'⟩ f' hC
  have W1 := W.out hC
  refine h 0 f' W1.hm fun Q' X' hq => i_Mo_canBe_ W1.mr ⟨(by first | assumption | exact hch.1 | exact hch.2 | exact Nb_le r2 (by omega) | omega | rfl), (by first | assumption | exact hch.1 | exact hch.2 | exact Nb_le r2 (by omega) | omega | rfl), (by first | assumption | exact hch.1 | exact hch.2 | exact Nb_le r2 (by omega) | omega | rfl)⟩ fun f'' hm => hq _ _ ?_
  obtain ⟨O', W2⟩ := W1.ref hm
  exact ⟨O', ad, adm, _, _, _, _, _, _, _, M, rfl, rfl, W2, hS', by omega, h0, fun _ => by rw [← hR]; rfl⟩
theorem KA_open {g : GG} {x m ao aod n : Nat} {f : AH} (H : LQ g x m ao aod n f) (hn : n < 1000) (x9 : Int32) (y9 : Int32) (z9 : Int32) (u9 : Int32) {Q : Option Value → AH → Prop} {X : String → AH → Prop} (h : ∀ (k : Int32) (f' : AH), hobj f' m 10 (fun _ => True) → (∀ (Q' : Option Value → AH → Prop) (X' : String → AH → Prop), (∀ (v : Int32) f'', PoR g x m ao aod (n + 1) k (fun wd _ => wd 0 = v.toInt64) f'' → Q' (some (.int v)) f'') → T_Mo_open [.ref m, .int x9, .int y9, .int z9, .int u9] f' Q' X') → Q (some (.int k)) f') : T_La_open g [.ref x, .int x9, .int y9, .int z9, .int u9, .ref ao] f Q X := by
  obtain ⟨O, ad, adm, sh, V, L, cm, cl, wd, we, M, rfl, rfl, W, hS, hM⟩ := H
  obtain ⟨⟨p1, p2⟩, ⟨p3, p4⟩, ⟨p5, p6, p7, p8⟩, ⟨p9, q1⟩, ⟨q2, q3, q4⟩, q5, ⟨q6, q7, q8, q9⟩, qa⟩ := hS.cp
  obtain ⟨⟨r1, r2, r3, r4⟩, r5, r6, r7, r8, r9, ra⟩ := hS.rp
  have hE : ∀ (k : Int32) (f' : AH), k ≠ 0 → (opM cm x9 y9 z9 u9).2 49 0 0 = k → SR ((opM cm x9 y9 z9 u9).2) (cl) sh V L M → CR g O f' ad sh V L → Q (some (.int k)) f' := by
    intro k f' hk0 hk hS' hC
    have W1 := W.same hC
    refine h k f' W1.hm fun Q' X' hq => i_Mo_open_ W1.mr (on_pre hS).2 fun f'' hm => hq _ _ ?_
    obtain ⟨O', W2⟩ := W1.ref hm
    exact ⟨O', ad, adm, sh, V, L, _, _, wd, we, M, rfl, rfl, W2, hS', by omega, hk, fun e => absurd e hk0⟩
  refine i_La_open_ W.1 W.2.2.1 (on_pre hS).1 (Cls.monz ?_ (fun k hk0 hh f' hC => hE k f' hk0 hh.1 hh.2 hC) ⟨show (1 : Int32) ≠ 0 by decide, show (2 : Int32) ≠ 0 by decide, show (3 : Int32) ≠ 0 by decide, trivial⟩ (P_open hS x9 y9 z9 u9))
  rintro ⟨h0, hR, hS'⟩ f' ad' e' hC
  have W1 := W.out hC
  refine h 0 f' W1.hm fun Q' X' hq => i_Mo_open_ W1.mr (on_pre hS).2 fun f'' hm => hq _ _ ?_
  obtain ⟨O', W2⟩ := W1.ref hm
  exact ⟨O', ad', adm, _, _, _, _, _, _, _, M, e', rfl, W2, hS', by omega, h0, fun _ => by rw [← hR]; rfl⟩
theorem KA_read {g : GG} {x m ao aod n : Nat} {f : AH} (H : LQ g x m ao aod n f) (hn : n < 1000) (x9 : Int32) {Q : Option Value → AH → Prop} {X : String → AH → Prop} (h : ∀ (k : Int32) (f' : AH), hobj f' m 10 (fun _ => True) → (∀ (Q' : Option Value → AH → Prop) (X' : String → AH → Prop), (∀ (v : Int32) f'', PoR g x m ao aod (n + 1) k (fun wd _ => wd 0 = v.toInt64) f'' → Q' (some (.int v)) f'') → T_Mo_read [.ref m, .int x9] f' Q' X') → Q (some (.int k)) f') : T_La_read g [.ref x, .int x9, .ref ao] f Q X := by
  obtain ⟨O, ad, adm, sh, V, L, cm, cl, wd, we, M, rfl, rfl, W, hS, hM⟩ := H
  obtain ⟨⟨p1, p2⟩, ⟨p3, p4⟩, ⟨p5, p6, p7, p8⟩, ⟨p9, q1⟩, ⟨q2, q3, q4⟩, q5, ⟨q6, q7, q8, q9⟩, qa⟩ := hS.cp
  obtain ⟨⟨r1, r2, r3, r4⟩, r5, r6, r7, r8, r9, ra⟩ := hS.rp
  have hE : ∀ (k : Int32) (f' : AH), k ≠ 0 → (rdM cm cl x9).1 49 0 0 = k → SR ((rdM cm cl x9).1) ((rdM cm cl x9).2.1) sh V L M → CR g O f' ad sh V L → Q (some (.int k)) f' := by
    intro k f' hk0 hk hS' hC
    have W1 := W.same hC
    refine h k f' W1.hm fun Q' X' hq => i_Mo_read_ W1.mr (read_pre hS).1 fun f'' hm => hq _ _ ?_
    obtain ⟨O', W2⟩ := W1.ref hm
    exact ⟨O', ad, adm, sh, V, L, _, _, wd, we, M, rfl, rfl, W2, hS', by omega, hk, fun e => absurd e hk0⟩
  refine i_La_read_ W.1 W.2.2.1 ⟨rfl, p2, p4, (read_pre hS).2⟩ (Cls.monz ?_ (fun k hk0 hh f' hC => hE k f' hk0 hh.1 hh.2 hC) ⟨show (1 : Int32) ≠ 0 by decide, trivial⟩ (P_read hS x9))
  rintro ⟨h0, hR, hS'⟩ f' hC
  have W1 := W.out hC
  refine h 0 f' W1.hm fun Q' X' hq => i_Mo_read_ W1.mr (read_pre hS).1 fun f'' hm => hq _ _ ?_
  obtain ⟨O', W2⟩ := W1.ref hm
  exact ⟨O', ad, adm, _, _, _, _, _, _, _, M, rfl, rfl, W2, hS', by omega, h0, fun _ => by rw [← hR]; rfl⟩
theorem KA_takeBack {g : GG} {x m ao aod n : Nat} {f : AH} (H : LQ g x m ao aod n f) (hn : n < 1000) (x9 : Int32) (y9 : Int32) {Q : Option Value → AH → Prop} {X : String → AH → Prop} (h : ∀ (k : Int32) (f' : AH), hobj f' m 10 (fun _ => True) → (∀ (Q' : Option Value → AH → Prop) (X' : String → AH → Prop), (∀ (v : Int32) f'', PoR g x m ao aod (n + 1) k (fun wd _ => wd 0 = v.toInt64) f'' → Q' (some (.int v)) f'') → T_Mo_takeBack [.ref m, .int x9, .int y9] f' Q' X') → Q (some (.int k)) f') : T_La_takeBack g [.ref x, .int x9, .int y9, .ref ao] f Q X := by
  obtain ⟨O, ad, adm, sh, V, L, cm, cl, wd, we, M, rfl, rfl, W, hS, hM⟩ := H
  obtain ⟨⟨p1, p2⟩, ⟨p3, p4⟩, ⟨p5, p6, p7, p8⟩, ⟨p9, q1⟩, ⟨q2, q3, q4⟩, q5, ⟨q6, q7, q8, q9⟩, qa⟩ := hS.cp
  obtain ⟨⟨r1, r2, r3, r4⟩, r5, r6, r7, r8, r9, ra⟩ := hS.rp
  have hE : ∀ (k : Int32) (f' : AH), k ≠ 0 → (tbM cm x9 y9).2 49 0 0 = k → SR ((tbM cm x9 y9).2) (cl) sh V L M → CR g O f' ad sh V L → Q (some (.int k)) f' := by
    intro k f' hk0 hk hS' hC
    have W1 := W.same hC
    refine h k f' W1.hm fun Q' X' hq => i_Mo_takeBack_ W1.mr (tb_pre hS) fun f'' hm => hq _ _ ?_
    obtain ⟨O', W2⟩ := W1.ref hm
    exact ⟨O', ad, adm, sh, V, L, _, _, wd, we, M, rfl, rfl, W2, hS', by omega, hk, fun e => absurd e hk0⟩
  refine i_La_takeBack_ W.1 W.2.2.1 ⟨(by first | assumption | exact hch.1 | exact hch.2 | exact Nb_le r2 (by omega) | omega | rfl), (by first | assumption | exact hch.1 | exact hch.2 | exact Nb_le r2 (by omega) | omega | rfl), (by first | assumption | exact hch.1 | exact hch.2 | exact Nb_le r2 (by omega) | omega | rfl)⟩ (Cls.monz ?_ (fun k hk0 hh f' hC => hE k f' hk0 hh.1 hh.2 hC) ⟨show (1 : Int32) ≠ 0 by decide, show (1 : Int32) ≠ 0 by decide, show (2 : Int32) ≠ 0 by decide, trivial⟩ (P_takeBack hS x9 y9))
  rintro ⟨h0, hR, hS'⟩ f' hC
  have W1 := W.out hC
  refine h 0 f' W1.hm fun Q' X' hq => i_Mo_takeBack_ W1.mr (tb_pre hS) fun f'' hm => hq _ _ ?_
  obtain ⟨O', W2⟩ := W1.ref hm
  exact ⟨O', ad, adm, _, _, _, _, _, _, _, M, rfl, rfl, W2, hS', by omega, h0, fun _ => by rw [← hR]; rfl⟩

