-- deps: c3.lawc
/-! ===== a call of the class, and what the document's values say of it ===== -/
theorem Cls.m1 {N N' : Prop} {E E' : Int32 → Prop} {c1 : Prop} {k1 v1 : Int32} (hN : N → N') (h1 : E k1 → E' v1) (h : Cls [(c1, k1)] N E) : Cls [(c1, v1)] N' E' := ⟨fun y => h1 (h.1 y), fun n => hN (h.2 n)⟩
theorem Cls.m2 {N N' : Prop} {E E' : Int32 → Prop} {c1 c2 : Prop} {k1 v1 k2 v2 : Int32} (hN : N → N') (h1 : E k1 → E' v1) (h2 : E k2 → E' v2) (h : Cls [(c1, k1), (c2, k2)] N E) : Cls [(c1, v1), (c2, v2)] N' E' := ⟨fun y => h1 (h.1 y), fun n => Cls.m1 hN h2 (h.2 n)⟩
theorem Cls.m3 {N N' : Prop} {E E' : Int32 → Prop} {c1 c2 c3 : Prop} {k1 v1 k2 v2 k3 v3 : Int32} (hN : N → N') (h1 : E k1 → E' v1) (h2 : E k2 → E' v2) (h3 : E k3 → E' v3) (h : Cls [(c1, k1), (c2, k2), (c3, k3)] N E) : Cls [(c1, v1), (c2, v2), (c3, v3)] N' E' := ⟨fun y => h1 (h.1 y), fun n => Cls.m2 hN h2 h3 (h.2 n)⟩
theorem Cls.m4 {N N' : Prop} {E E' : Int32 → Prop} {c1 c2 c3 c4 : Prop} {k1 v1 k2 v2 k3 v3 k4 v4 : Int32} (hN : N → N') (h1 : E k1 → E' v1) (h2 : E k2 → E' v2) (h3 : E k3 → E' v3) (h4 : E k4 → E' v4) (h : Cls [(c1, k1), (c2, k2), (c3, k3), (c4, k4)] N E) : Cls [(c1, v1), (c2, v2), (c3, v3), (c4, v4)] N' E' := ⟨fun y => h1 (h.1 y), fun n => Cls.m3 hN h2 h3 h4 (h.2 n)⟩
/-- the class's object at o, with all it holds, as the values cm say; O stands beside it -/
def GS (g : GG) (f : AH) (o : Nat) (O : AH) (cm : CM) (M S F : Nat) : Prop := ∃ (ad : Nat → Nat) (sh : Sh) (V : CV) (L : Int64) (cl : CL), ad 0 = o ∧ CR g O f ad sh V L ∧ SR cm cl sh V L M ∧ sh.S = S ∧ sh.F = F
/-- what a wrapper answers -/
def ans (k r : Int32) : Int32 := if k = 0 then r else -900000 - k
def wM (k : Int32) (M : Nat) : Nat := if k = 0 then M + 1 else M
theorem vatM_q {cm : CM} {x c : Int32} {k : Nat} (hk : k ≠ 49) : (vatM cm x c).2 k = cm k := by
  rw [vatM]
  split
  · exact thr_nq hk
  · split
    · exact (thr_nq hk).trans (thr_nq hk)
    · exact (thr_nq hk).trans (thr_nq hk)
theorem totM_q {cm : CM} {x y w : Int32} {k : Nat} (hk : k ≠ 49) : (totM cm x y w).2 k = cm k := by
  rw [totM]
  split
  · exact noGrpC_n hk
  · split
    · exact (thr_nq hk).trans (noGrpC_n hk)
    · exact (thr_nq hk).trans (noGrpC_n hk)
theorem edgM_q {cm : CM} {x y : Int32} {gr : Bool} {k : Nat} (hk : k ≠ 49) : (edgM cm x y gr).2 k = cm k := by
  rw [edgM]
  split
  · exact noGrpC_n hk
  · split
    · exact (thr_nq hk).trans (noGrpC_n hk)
    · exact (thr_nq hk).trans (noGrpC_n hk)
theorem noSumC_q {cm : CM} {x y : Int32} {k : Nat} (hk : k ≠ 49) : noSumC cm x y k = cm k := by
  rw [noSumC]
  split
  · exact thr_nq hk
  · exact (thr_nq hk).trans (thr_nq hk)
theorem ldP_SF {x y z : Int32} {sh : Sh} {V : CV} : ∀ n, (ldP x y z n (sh, V)).1.F = sh.F ∧ (ldP x y z n (sh, V)).1.S = sh.S
  | 0 => ⟨rfl, rfl⟩
  | n + 1 => by
    obtain ⟨h1, h2⟩ := ldP_SF (x := x) (y := y) (z := z) (sh := sh) (V := V) n
    rw [ldP]
    generalize ldP x y z n (sh, V) = p at h1 h2 ⊢
    dsimp only
    rw [plS]
    split
    · exact ⟨h1, h2⟩
    · exact ⟨h1, h2⟩
theorem KA_set {g : GG} {f : AH} {o : Nat} {O : AH} {cm : CM} {M S F : Nat} (H : GS g f o O cm M S F) (hM1 : M < 1000) (x9 : Int32) (c9 : Int32) (v9 : Int32) {Q : Option Value → AH → Prop} {X : String → AH → Prop} (h : ∀ (f' : AH), GS g f' o O ((setM cm x9 c9 v9).2) (wM ((setM cm x9 c9 v9).2 49 0 0) M) S F → Q (some (.int (ans ((setM cm x9 c9 v9).2 49 0 0) (b2i (setM cm x9 c9 v9).1)))) f') : T_La_set g [.ref o, .int x9, .int c9, .int v9] f Q X := by
  obtain ⟨ad, sh, V, L, cl, rfl, hC, hS, hS1, hF1⟩ := H
  obtain ⟨⟨p1, p2⟩, ⟨p3, p4⟩, ⟨p5, p6, p7, p8⟩, ⟨p9, q1⟩, ⟨q2, q3, q4⟩, q5, ⟨q6, q7, q8, q9⟩, qa⟩ := hS.cp
  refine i_La_set_ hC ⟨(by first | assumption | omega | rfl), (by first | assumption | omega | rfl), (by first | assumption | omega | rfl), (by first | assumption | omega | rfl), (by first | assumption | omega | rfl), (by first | assumption | omega | rfl)⟩ (Cls.m3 ?_ ?_ ?_ ?_ (P_set hS hM1 x9 c9 v9))
  · rintro ⟨h0, hR, hS'⟩ f' hC'
    have q := h f' (by rw [h0, wM, if_pos rfl]; exact ⟨ad, _, _, _, cl, rfl, hC', hS', hS1, hF1⟩)
    rw [h0, ans, if_pos rfl, ← hR] at q
    exact q
  · rintro ⟨h0, hS'⟩ f' hC'
    have q := h f' (by rw [h0, wM, if_neg (by decide)]; exact ⟨ad, _, _, _, cl, rfl, hC', hS', hS1, hF1⟩)
    rw [h0, ans, if_neg (by decide), show (-900000 - 1 : Int32) = -900001 from by decide] at q
    exact q
  · rintro ⟨h0, hS'⟩ f' hC'
    have q := h f' (by rw [h0, wM, if_neg (by decide)]; exact ⟨ad, _, _, _, cl, rfl, hC', hS', hS1, hF1⟩)
    rw [h0, ans, if_neg (by decide), show (-900000 - 2 : Int32) = -900002 from by decide] at q
    exact q
  · rintro ⟨h0, hS'⟩ f' hC'
    have q := h f' (by rw [h0, wM, if_neg (by decide)]; exact ⟨ad, _, _, _, cl, rfl, hC', hS', hS1, hF1⟩)
    rw [h0, ans, if_neg (by decide), show (-900000 - 3 : Int32) = -900003 from by decide] at q
    exact q
theorem KA_clear {g : GG} {f : AH} {o : Nat} {O : AH} {cm : CM} {M S F : Nat} (H : GS g f o O cm M S F) (hM1 : M < 1000) (x9 : Int32) (c9 : Int32) {Q : Option Value → AH → Prop} {X : String → AH → Prop} (h : ∀ (f' : AH), GS g f' o O ((clrM cm x9 c9).2) (wM ((clrM cm x9 c9).2 49 0 0) M) S F → Q (some (.int (ans ((clrM cm x9 c9).2 49 0 0) (b2i (clrM cm x9 c9).1)))) f') : T_La_clear g [.ref o, .int x9, .int c9] f Q X := by
  obtain ⟨ad, sh, V, L, cl, rfl, hC, hS, hS1, hF1⟩ := H
  obtain ⟨⟨p1, p2⟩, ⟨p3, p4⟩, ⟨p5, p6, p7, p8⟩, ⟨p9, q1⟩, ⟨q2, q3, q4⟩, q5, ⟨q6, q7, q8, q9⟩, qa⟩ := hS.cp
  refine i_La_clear_ hC ⟨(by first | assumption | omega | rfl), (by first | assumption | omega | rfl), (by first | assumption | omega | rfl), (by first | assumption | omega | rfl), (by first | assumption | omega | rfl), (by first | assumption | omega | rfl)⟩ (Cls.m2 ?_ ?_ ?_ (P_clear hS hM1 x9 c9))
  · rintro ⟨h0, hR, hS'⟩ f' hC'
    have q := h f' (by rw [h0, wM, if_pos rfl]; exact ⟨ad, _, _, _, cl, rfl, hC', hS', hS1, hF1⟩)
    rw [h0, ans, if_pos rfl, ← hR] at q
    exact q
  · rintro ⟨h0, hS'⟩ f' hC'
    have q := h f' (by rw [h0, wM, if_neg (by decide)]; exact ⟨ad, _, _, _, cl, rfl, hC', hS', hS1, hF1⟩)
    rw [h0, ans, if_neg (by decide), show (-900000 - 1 : Int32) = -900001 from by decide] at q
    exact q
  · rintro ⟨h0, hS'⟩ f' hC'
    have q := h f' (by rw [h0, wM, if_neg (by decide)]; exact ⟨ad, _, _, _, cl, rfl, hC', hS', hS1, hF1⟩)
    rw [h0, ans, if_neg (by decide), show (-900000 - 2 : Int32) = -900002 from by decide] at q
    exact q
theorem KA_remove {g : GG} {f : AH} {o : Nat} {O : AH} {cm : CM} {M S F : Nat} (H : GS g f o O cm M S F) (hM1 : M < 1000) (x9 : Int32) {Q : Option Value → AH → Prop} {X : String → AH → Prop} (h : ∀ (f' : AH), GS g f' o O ((rmM cm x9).2) (wM ((rmM cm x9).2 49 0 0) M) S F → Q (some (.int (ans ((rmM cm x9).2 49 0 0) ((rmM cm x9).1)))) f') : T_La_remove g [.ref o, .int x9] f Q X := by
  obtain ⟨ad, sh, V, L, cl, rfl, hC, hS, hS1, hF1⟩ := H
  obtain ⟨⟨p1, p2⟩, ⟨p3, p4⟩, ⟨p5, p6, p7, p8⟩, ⟨p9, q1⟩, ⟨q2, q3, q4⟩, q5, ⟨q6, q7, q8, q9⟩, qa⟩ := hS.cp
  refine i_La_remove_ hC ⟨(by first | assumption | omega | rfl), (by first | assumption | omega | rfl), (by first | assumption | omega | rfl), (by first | assumption | omega | rfl)⟩ (Cls.m2 ?_ ?_ ?_ (P_remove hS hM1 x9))
  · rintro ⟨h0, hR, hS'⟩ f' hC'
    have q := h f' (by rw [h0, wM, if_pos rfl]; exact ⟨ad, _, _, _, cl, rfl, hC', hS', hS1, hF1⟩)
    rw [h0, ans, if_pos rfl, ← hR] at q
    exact q
  · rintro ⟨h0, hS'⟩ f' hC'
    have q := h f' (by rw [h0, wM, if_neg (by decide)]; exact ⟨ad, _, _, _, cl, rfl, hC', hS', hS1, hF1⟩)
    rw [h0, ans, if_neg (by decide), show (-900000 - 1 : Int32) = -900001 from by decide] at q
    exact q
  · rintro ⟨h0, hS'⟩ f' hC'
    have q := h f' (by rw [h0, wM, if_neg (by decide)]; exact ⟨ad, _, _, _, cl, rfl, hC', hS', hS1, hF1⟩)
    rw [h0, ans, if_neg (by decide), show (-900000 - 2 : Int32) = -900002 from by decide] at q
    exact q
theorem KA_valueAt {g : GG} {f : AH} {o : Nat} {O : AH} {cm : CM} {M S F : Nat} (H : GS g f o O cm M S F) (x9 : Int32) (c9 : Int32) {Q : Option Value → AH → Prop} {X : String → AH → Prop} (h : ∀ (f' : AH), GS g f' o O cm M S F → Q (some (.int (ans ((vatM cm x9 c9).2 49 0 0) ((vatM cm x9 c9).1)))) f') : T_La_valueAt g [.ref o, .int x9, .int c9] f Q X := by
  obtain ⟨ad, sh, V, L, cl, rfl, hC, hS, hS1, hF1⟩ := H
  obtain ⟨⟨p1, p2⟩, ⟨p3, p4⟩, ⟨p5, p6, p7, p8⟩, ⟨p9, q1⟩, ⟨q2, q3, q4⟩, q5, ⟨q6, q7, q8, q9⟩, qa⟩ := hS.cp
  refine i_La_valueAt_ hC (by first | assumption | omega | rfl) (Cls.m2 ?_ ?_ ?_ (P_valueAt hS x9 c9))
  · rintro ⟨h0, hR, hS'⟩ f' hC'
    have q := h f' (by exact ⟨ad, _, _, _, cl, rfl, hC', (hS'.c49 fun k hk => (vatM_q hk).symm), hS1, hF1⟩)
    rw [h0, ans, if_pos rfl, ← hR] at q
    exact q
  · rintro ⟨h0, hS'⟩ f' hC'
    have q := h f' (by exact ⟨ad, _, _, _, cl, rfl, hC', (hS'.c49 fun k hk => (vatM_q hk).symm), hS1, hF1⟩)
    rw [h0, ans, if_neg (by decide), show (-900000 - 1 : Int32) = -900001 from by decide] at q
    exact q
  · rintro ⟨h0, hS'⟩ f' hC'
    have q := h f' (by exact ⟨ad, _, _, _, cl, rfl, hC', (hS'.c49 fun k hk => (vatM_q hk).symm), hS1, hF1⟩)
    rw [h0, ans, if_neg (by decide), show (-900000 - 2 : Int32) = -900002 from by decide] at q
    exact q
theorem KA_isDone {g : GG} {f : AH} {o : Nat} {O : AH} {cm : CM} {M S F : Nat} (H : GS g f o O cm M S F) (x9 : Int32) {Q : Option Value → AH → Prop} {X : String → AH → Prop} (h : ∀ (f' : AH), GS g f' o O cm M S F → Q (some (.int (ans (thr cm (noScan cm x9) 1 49 0 0) (b2i (!noScan cm x9 && decide (0 < cm 33 0 (nn x9))))))) f') : T_La_isDone g [.ref o, .int x9] f Q X := by
  obtain ⟨ad, sh, V, L, cl, rfl, hC, hS, hS1, hF1⟩ := H
  obtain ⟨⟨p1, p2⟩, ⟨p3, p4⟩, ⟨p5, p6, p7, p8⟩, ⟨p9, q1⟩, ⟨q2, q3, q4⟩, q5, ⟨q6, q7, q8, q9⟩, qa⟩ := hS.cp
  refine i_La_isDone_ hC ⟨(by first | assumption | omega | rfl), (by first | assumption | omega | rfl)⟩ (Cls.m1 ?_ ?_ (P_isDone hS x9))
  · rintro ⟨h0, hR, hS'⟩ f' hC'
    have q := h f' (by exact ⟨ad, _, _, _, cl, rfl, hC', (hS'.c49 fun k hk => (thr_nq hk).symm), hS1, hF1⟩)
    rw [h0, ans, if_pos rfl, ← hR] at q
    exact q
  · rintro ⟨h0, hS'⟩ f' hC'
    have q := h f' (by exact ⟨ad, _, _, _, cl, rfl, hC', (hS'.c49 fun k hk => (thr_nq hk).symm), hS1, hF1⟩)
    rw [h0, ans, if_neg (by decide), show (-900000 - 1 : Int32) = -900001 from by decide] at q
    exact q
theorem KA_groups {g : GG} {f : AH} {o : Nat} {O : AH} {cm : CM} {M S F : Nat} (H : GS g f o O cm M S F) (x9 : Int32) {Q : Option Value → AH → Prop} {X : String → AH → Prop} (h : ∀ (f' : AH), GS g f' o O cm M S F → Q (some (.int (ans (noResC cm x9 49 0 0) ((if noRes cm x9 then 0 else cm 34 0 (nn x9)))))) f') : T_La_groups g [.ref o, .int x9] f Q X := by
  obtain ⟨ad, sh, V, L, cl, rfl, hC, hS, hS1, hF1⟩ := H
  obtain ⟨⟨p1, p2⟩, ⟨p3, p4⟩, ⟨p5, p6, p7, p8⟩, ⟨p9, q1⟩, ⟨q2, q3, q4⟩, q5, ⟨q6, q7, q8, q9⟩, qa⟩ := hS.cp
  refine i_La_groups_ hC ⟨(by first | assumption | omega | rfl), (by first | assumption | omega | rfl)⟩ (Cls.m2 ?_ ?_ ?_ (P_groups hS x9))
  · rintro ⟨h0, hR, hS'⟩ f' hC'
    have q := h f' (by exact ⟨ad, _, _, _, cl, rfl, hC', (hS'.c49 fun k hk => (noResC_n hk).symm), hS1, hF1⟩)
    rw [h0, ans, if_pos rfl, ← hR] at q
    exact q
  · rintro ⟨h0, hS'⟩ f' hC'
    have q := h f' (by exact ⟨ad, _, _, _, cl, rfl, hC', (hS'.c49 fun k hk => (noResC_n hk).symm), hS1, hF1⟩)
    rw [h0, ans, if_neg (by decide), show (-900000 - 1 : Int32) = -900001 from by decide] at q
    exact q
  · rintro ⟨h0, hS'⟩ f' hC'
    have q := h f' (by exact ⟨ad, _, _, _, cl, rfl, hC', (hS'.c49 fun k hk => (noResC_n hk).symm), hS1, hF1⟩)
    rw [h0, ans, if_neg (by decide), show (-900000 - 2 : Int32) = -900002 from by decide] at q
    exact q
theorem KA_keyAt {g : GG} {f : AH} {o : Nat} {O : AH} {cm : CM} {M S F : Nat} (H : GS g f o O cm M S F) (x9 : Int32) (y9 : Int32) {Q : Option Value → AH → Prop} {X : String → AH → Prop} (h : ∀ (f' : AH), GS g f' o O cm M S F → Q (some (.int (ans (noGrpC cm x9 y9 49 0 0) ((if noGrp cm x9 y9 then 0 else if cm 38 (nn x9) (nn (cm 51 (nn x9) (nn y9))) = 5000 then 1000 else cm 38 (nn x9) (nn (cm 51 (nn x9) (nn y9)))))))) f') : T_La_keyAt g [.ref o, .int x9, .int y9] f Q X := by
  obtain ⟨ad, sh, V, L, cl, rfl, hC, hS, hS1, hF1⟩ := H
  obtain ⟨⟨p1, p2⟩, ⟨p3, p4⟩, ⟨p5, p6, p7, p8⟩, ⟨p9, q1⟩, ⟨q2, q3, q4⟩, q5, ⟨q6, q7, q8, q9⟩, qa⟩ := hS.cp
  refine i_La_keyAt_ hC ⟨(by first | assumption | omega | rfl), (by first | assumption | omega | rfl), (by first | assumption | omega | rfl)⟩ (Cls.m3 ?_ ?_ ?_ ?_ (P_keyAt hS x9 y9))
  · rintro ⟨h0, hR, hS'⟩ f' hC'
    have q := h f' (by exact ⟨ad, _, _, _, cl, rfl, hC', (hS'.c49 fun k hk => (noGrpC_n hk).symm), hS1, hF1⟩)
    rw [h0, ans, if_pos rfl, ← hR] at q
    exact q
  · rintro ⟨h0, hS'⟩ f' hC'
    have q := h f' (by exact ⟨ad, _, _, _, cl, rfl, hC', (hS'.c49 fun k hk => (noGrpC_n hk).symm), hS1, hF1⟩)
    rw [h0, ans, if_neg (by decide), show (-900000 - 1 : Int32) = -900001 from by decide] at q
    exact q
  · rintro ⟨h0, hS'⟩ f' hC'
    have q := h f' (by exact ⟨ad, _, _, _, cl, rfl, hC', (hS'.c49 fun k hk => (noGrpC_n hk).symm), hS1, hF1⟩)
    rw [h0, ans, if_neg (by decide), show (-900000 - 2 : Int32) = -900002 from by decide] at q
    exact q
  · rintro ⟨h0, hS'⟩ f' hC'
    have q := h f' (by exact ⟨ad, _, _, _, cl, rfl, hC', (hS'.c49 fun k hk => (noGrpC_n hk).symm), hS1, hF1⟩)
    rw [h0, ans, if_neg (by decide), show (-900000 - 3 : Int32) = -900003 from by decide] at q
    exact q
theorem KA_total {g : GG} {f : AH} {o : Nat} {O : AH} {cm : CM} {M S F : Nat} (H : GS g f o O cm M S F) (x9 : Int32) (y9 : Int32) (w9 : Int32) {Q : Option Value → AH → Prop} {X : String → AH → Prop} (h : ∀ (f' : AH), GS g f' o O cm M S F → Q (some (.int (ans ((totM cm x9 y9 w9).2 49 0 0) ((totM cm x9 y9 w9).1)))) f') : T_La_total g [.ref o, .int x9, .int y9, .int w9] f Q X := by
  obtain ⟨ad, sh, V, L, cl, rfl, hC, hS, hS1, hF1⟩ := H
  obtain ⟨⟨p1, p2⟩, ⟨p3, p4⟩, ⟨p5, p6, p7, p8⟩, ⟨p9, q1⟩, ⟨q2, q3, q4⟩, q5, ⟨q6, q7, q8, q9⟩, qa⟩ := hS.cp
  refine i_La_total_ hC ⟨(by first | assumption | omega | rfl), (by first | assumption | omega | rfl), (by first | assumption | omega | rfl)⟩ (Cls.m4 ?_ ?_ ?_ ?_ ?_ (P_total hS x9 y9 w9))
  · rintro ⟨h0, hR, hS'⟩ f' hC'
    have q := h f' (by exact ⟨ad, _, _, _, cl, rfl, hC', (hS'.c49 fun k hk => (totM_q hk).symm), hS1, hF1⟩)
    rw [h0, ans, if_pos rfl, ← hR] at q
    exact q
  · rintro ⟨h0, hS'⟩ f' hC'
    have q := h f' (by exact ⟨ad, _, _, _, cl, rfl, hC', (hS'.c49 fun k hk => (totM_q hk).symm), hS1, hF1⟩)
    rw [h0, ans, if_neg (by decide), show (-900000 - 1 : Int32) = -900001 from by decide] at q
    exact q
  · rintro ⟨h0, hS'⟩ f' hC'
    have q := h f' (by exact ⟨ad, _, _, _, cl, rfl, hC', (hS'.c49 fun k hk => (totM_q hk).symm), hS1, hF1⟩)
    rw [h0, ans, if_neg (by decide), show (-900000 - 2 : Int32) = -900002 from by decide] at q
    exact q
  · rintro ⟨h0, hS'⟩ f' hC'
    have q := h f' (by exact ⟨ad, _, _, _, cl, rfl, hC', (hS'.c49 fun k hk => (totM_q hk).symm), hS1, hF1⟩)
    rw [h0, ans, if_neg (by decide), show (-900000 - 3 : Int32) = -900003 from by decide] at q
    exact q
  · rintro ⟨h0, hS'⟩ f' hC'
    have q := h f' (by exact ⟨ad, _, _, _, cl, rfl, hC', (hS'.c49 fun k hk => (totM_q hk).symm), hS1, hF1⟩)
    rw [h0, ans, if_neg (by decide), show (-900000 - 4 : Int32) = -900004 from by decide] at q
    exact q
theorem KA_edge {g : GG} {f : AH} {o : Nat} {O : AH} {cm : CM} {M S F : Nat} (H : GS g f o O cm M S F) (x9 : Int32) (y9 : Int32) (gr9 : Bool) {Q : Option Value → AH → Prop} {X : String → AH → Prop} (h : ∀ (f' : AH), GS g f' o O cm M S F → Q (some (.int (ans ((edgM cm x9 y9 gr9).2 49 0 0) ((edgM cm x9 y9 gr9).1)))) f') : T_La_edge g [.ref o, .int x9, .int y9, .int (b2i gr9)] f Q X := by
  obtain ⟨ad, sh, V, L, cl, rfl, hC, hS, hS1, hF1⟩ := H
  obtain ⟨⟨p1, p2⟩, ⟨p3, p4⟩, ⟨p5, p6, p7, p8⟩, ⟨p9, q1⟩, ⟨q2, q3, q4⟩, q5, ⟨q6, q7, q8, q9⟩, qa⟩ := hS.cp
  refine i_La_edge_ hC ⟨(by first | assumption | omega | rfl), (by first | assumption | omega | rfl), (by first | assumption | omega | rfl)⟩ (Cls.m4 ?_ ?_ ?_ ?_ ?_ (P_edge hS x9 y9 gr9))
  · rintro ⟨h0, hR, hS'⟩ f' hC'
    have q := h f' (by exact ⟨ad, _, _, _, cl, rfl, hC', (hS'.c49 fun k hk => (edgM_q hk).symm), hS1, hF1⟩)
    rw [h0, ans, if_pos rfl, ← hR] at q
    exact q
  · rintro ⟨h0, hS'⟩ f' hC'
    have q := h f' (by exact ⟨ad, _, _, _, cl, rfl, hC', (hS'.c49 fun k hk => (edgM_q hk).symm), hS1, hF1⟩)
    rw [h0, ans, if_neg (by decide), show (-900000 - 1 : Int32) = -900001 from by decide] at q
    exact q
  · rintro ⟨h0, hS'⟩ f' hC'
    have q := h f' (by exact ⟨ad, _, _, _, cl, rfl, hC', (hS'.c49 fun k hk => (edgM_q hk).symm), hS1, hF1⟩)
    rw [h0, ans, if_neg (by decide), show (-900000 - 2 : Int32) = -900002 from by decide] at q
    exact q
  · rintro ⟨h0, hS'⟩ f' hC'
    have q := h f' (by exact ⟨ad, _, _, _, cl, rfl, hC', (hS'.c49 fun k hk => (edgM_q hk).symm), hS1, hF1⟩)
    rw [h0, ans, if_neg (by decide), show (-900000 - 3 : Int32) = -900003 from by decide] at q
    exact q
  · rintro ⟨h0, hS'⟩ f' hC'
    have q := h f' (by exact ⟨ad, _, _, _, cl, rfl, hC', (hS'.c49 fun k hk => (edgM_q hk).symm), hS1, hF1⟩)
    rw [h0, ans, if_neg (by decide), show (-900000 - 4 : Int32) = -900004 from by decide] at q
    exact q
theorem KA_takeBack {g : GG} {f : AH} {o : Nat} {O : AH} {cm : CM} {M S F : Nat} (H : GS g f o O cm M S F) (x9 : Int32) (y9 : Int32) {Q : Option Value → AH → Prop} {X : String → AH → Prop} (h : ∀ (f' : AH), GS g f' o O ((tbM cm x9 y9).2) M S F → Q (some (.int (ans ((tbM cm x9 y9).2 49 0 0) ((tbM cm x9 y9).1)))) f') : T_La_takeBack g [.ref o, .int x9, .int y9] f Q X := by
  obtain ⟨ad, sh, V, L, cl, rfl, hC, hS, hS1, hF1⟩ := H
  obtain ⟨⟨p1, p2⟩, ⟨p3, p4⟩, ⟨p5, p6, p7, p8⟩, ⟨p9, q1⟩, ⟨q2, q3, q4⟩, q5, ⟨q6, q7, q8, q9⟩, qa⟩ := hS.cp
  refine i_La_takeBack_ hC ⟨(by first | assumption | omega | rfl), (by first | assumption | omega | rfl), (by first | assumption | omega | rfl)⟩ (Cls.m3 ?_ ?_ ?_ ?_ (P_takeBack hS x9 y9))
  · rintro ⟨h0, hR, hS'⟩ f' hC'
    have q := h f' (by exact ⟨ad, _, _, _, cl, rfl, hC', hS', hS1, hF1⟩)
    rw [h0, ans, if_pos rfl, ← hR] at q
    exact q
  · rintro ⟨h0, hS'⟩ f' hC'
    have q := h f' (by exact ⟨ad, _, _, _, cl, rfl, hC', hS', hS1, hF1⟩)
    rw [h0, ans, if_neg (by decide), show (-900000 - 1 : Int32) = -900001 from by decide] at q
    exact q
  · rintro ⟨h0, hS'⟩ f' hC'
    have q := h f' (by exact ⟨ad, _, _, _, cl, rfl, hC', hS', hS1, hF1⟩)
    rw [h0, ans, if_neg (by decide), show (-900000 - 1 : Int32) = -900001 from by decide] at q
    exact q
  · rintro ⟨h0, hS'⟩ f' hC'
    have q := h f' (by exact ⟨ad, _, _, _, cl, rfl, hC', hS', hS1, hF1⟩)
    rw [h0, ans, if_neg (by decide), show (-900000 - 2 : Int32) = -900002 from by decide] at q
    exact q
theorem KA_sum {g : GG} {f : AH} {o : Nat} {O : AH} {cm : CM} {M S F : Nat} (H : GS g f o O cm M S F) (x9 : Int32) (y9 : Int32) {Q : Option Value → AH → Prop} {X : String → AH → Prop} (h : ∀ (f' : AH), GS g f' o O cm M S F → Q (some (.int (ans (noSumC cm x9 y9 49 0 0) (smM cm x9 y9)))) f') : T_La_sum g [.ref o, .int x9, .int y9] f Q X := by
  obtain ⟨ad, sh, V, L, cl, rfl, hC, hS, hS1, hF1⟩ := H
  obtain ⟨⟨p1, p2⟩, ⟨p3, p4⟩, ⟨p5, p6, p7, p8⟩, ⟨p9, q1⟩, ⟨q2, q3, q4⟩, q5, ⟨q6, q7, q8, q9⟩, qa⟩ := hS.cp
  refine i_La_sum_ hC ⟨(by first | assumption | omega | rfl), (by first | assumption | omega | rfl), (by first | assumption | omega | rfl)⟩ (Cls.m2 ?_ ?_ ?_ (P_sum hS x9 y9))
  · rintro ⟨h0, hR, hS'⟩ f' hC'
    have q := h f' (by exact ⟨ad, _, _, _, cl, rfl, hC', (hS'.ask (fun k hk => (noSumC_q hk).symm) fun _ _ _ _ _ _ _ => rfl), hS1, hF1⟩)
    rw [h0, ans, if_pos rfl, ← hR] at q
    exact q
  · rintro ⟨h0, hS'⟩ f' hC'
    have q := h f' (by exact ⟨ad, _, _, _, cl, rfl, hC', (hS'.ask (fun k hk => (noSumC_q hk).symm) fun _ _ _ _ _ _ _ => rfl), hS1, hF1⟩)
    rw [h0, ans, if_neg (by decide), show (-900000 - 1 : Int32) = -900001 from by decide] at q
    exact q
  · rintro ⟨h0, hS'⟩ f' hC'
    have q := h f' (by exact ⟨ad, _, _, _, cl, rfl, hC', (hS'.ask (fun k hk => (noSumC_q hk).symm) fun _ _ _ _ _ _ _ => rfl), hS1, hF1⟩)
    rw [h0, ans, if_neg (by decide), show (-900000 - 2 : Int32) = -900002 from by decide] at q
    exact q
theorem KA_bound {g : GG} {f : AH} {o : Nat} {O : AH} {cm : CM} {M S F : Nat} (H : GS g f o O cm M S F) (x9 : Int32) (y9 : Int32) (ab9 : Bool) {Q : Option Value → AH → Prop} {X : String → AH → Prop} (h : ∀ (f' : AH), GS g f' o O cm M S F → Q (some (.int (ans (noSumC cm x9 y9 49 0 0) (bdM cm x9 y9 ab9)))) f') : T_La_bound g [.ref o, .int x9, .int y9, .int (b2i ab9)] f Q X := by
  obtain ⟨ad, sh, V, L, cl, rfl, hC, hS, hS1, hF1⟩ := H
  obtain ⟨⟨p1, p2⟩, ⟨p3, p4⟩, ⟨p5, p6, p7, p8⟩, ⟨p9, q1⟩, ⟨q2, q3, q4⟩, q5, ⟨q6, q7, q8, q9⟩, qa⟩ := hS.cp
  refine i_La_bound_ hC ⟨(by first | assumption | omega | rfl), (by first | assumption | omega | rfl), (by first | assumption | omega | rfl), (by first | assumption | omega | rfl), (by first | assumption | omega | rfl), (by first | assumption | omega | rfl), (by first | assumption | omega | rfl)⟩ (Cls.m2 ?_ ?_ ?_ (P_bound hS x9 y9 ab9))
  · rintro ⟨h0, hR, hS'⟩ f' hC'
    have q := h f' (by exact ⟨ad, _, _, _, cl, rfl, hC', (hS'.ask (fun k hk => (noSumC_q hk).symm) fun _ _ _ _ _ _ _ => rfl), hS1, hF1⟩)
    rw [h0, ans, if_pos rfl, ← hR] at q
    exact q
  · rintro ⟨h0, hS'⟩ f' hC'
    have q := h f' (by exact ⟨ad, _, _, _, cl, rfl, hC', (hS'.ask (fun k hk => (noSumC_q hk).symm) fun _ _ _ _ _ _ _ => rfl), hS1, hF1⟩)
    rw [h0, ans, if_neg (by decide), show (-900000 - 1 : Int32) = -900001 from by decide] at q
    exact q
  · rintro ⟨h0, hS'⟩ f' hC'
    have q := h f' (by exact ⟨ad, _, _, _, cl, rfl, hC', (hS'.ask (fun k hk => (noSumC_q hk).symm) fun _ _ _ _ _ _ _ => rfl), hS1, hF1⟩)
    rw [h0, ans, if_neg (by decide), show (-900000 - 2 : Int32) = -900002 from by decide] at q
    exact q
theorem KA_read {g : GG} {f : AH} {o : Nat} {O : AH} {cm : CM} {M S F : Nat} (H : GS g f o O cm M S F) (x9 : Int32) {Q : Option Value → AH → Prop} {X : String → AH → Prop} (h : ∀ (cl : CL) (f' : AH), GS g f' o O ((rdM cm cl x9).1) M S F → Q (some (.int (ans ((rdM cm cl x9).1 49 0 0) (nI (rdM cm cl x9).2.2)))) f') : T_La_read g [.ref o, .int x9] f Q X := by
  obtain ⟨ad, sh, V, L, cl, rfl, hC, hS, hS1, hF1⟩ := H
  obtain ⟨⟨p1, p2⟩, ⟨p3, p4⟩, ⟨p5, p6, p7, p8⟩, ⟨p9, q1⟩, ⟨q2, q3, q4⟩, q5, ⟨q6, q7, q8, q9⟩, qa⟩ := hS.cp
  replace h := h cl
  refine i_La_read_ hC ⟨rfl, p2, p4, (read_pre hS).2⟩ (Cls.m1 ?_ ?_ (P_read hS x9))
  · rintro ⟨h0, hR, hS'⟩ f' hC'
    have q := h f' (by exact ⟨ad, _, _, _, (rdM cm cl x9).2.1, rfl, hC', hS', hS1, hF1⟩)
    rw [h0, ans, if_pos rfl, ← hR] at q
    exact q
  · rintro ⟨h0, hS'⟩ f' hC'
    have q := h f' (by exact ⟨ad, _, _, _, (rdM cm cl x9).2.1, rfl, hC', hS', hS1, hF1⟩)
    rw [h0, ans, if_neg (by decide), show (-900000 - 1 : Int32) = -900001 from by decide] at q
    exact q
theorem KA_load {g : GG} {f : AH} {o : Nat} {O : AH} {cm : CM} {M S F : Nat} (H : GS g f o O cm M S F) (hM1 : M < 1000) (m9 : Int32) (x9 : Int32) (y9 : Int32) (z9 : Int32) {Q : Option Value → AH → Prop} {X : String → AH → Prop} (h : ∀ (f' : AH), GS g f' o O ((ldM cm m9 x9 y9 z9).2) (wM ((ldM cm m9 x9 y9 z9).2 49 0 0) M) S F → Q (some (.int (ans ((ldM cm m9 x9 y9 z9).2 49 0 0) ((ldM cm m9 x9 y9 z9).1)))) f') : T_La_load g [.ref o, .int m9, .int x9, .int y9, .int z9] f Q X := by
  obtain ⟨ad, sh, V, L, cl, rfl, hC, hS, hS1, hF1⟩ := H
  obtain ⟨⟨p1, p2⟩, ⟨p3, p4⟩, ⟨p5, p6, p7, p8⟩, ⟨p9, q1⟩, ⟨q2, q3, q4⟩, q5, ⟨q6, q7, q8, q9⟩, qa⟩ := hS.cp
  refine i_La_load_ hC (ld_pre hS) (Cls.m2 ?_ ?_ ?_ (P_load hS hM1 m9 x9 y9 z9))
  · rintro ⟨h0, hR, hS'⟩ f' ad' e' hC'
    have q := h f' (by rw [h0, wM, if_pos rfl]; exact ⟨ad', _, _, _, cl, e', hC', hS', ((ldP_SF _).2.trans hS1), ((ldP_SF _).1.trans hF1)⟩)
    rw [h0, ans, if_pos rfl, ← hR] at q
    exact q
  · rintro ⟨h0, hS'⟩ f' hC'
    have q := h f' (by rw [h0, wM, if_neg (by decide)]; exact ⟨ad, _, _, _, cl, rfl, hC', hS', hS1, hF1⟩)
    rw [h0, ans, if_neg (by decide), show (-900000 - 1 : Int32) = -900001 from by decide] at q
    exact q
  · rintro ⟨h0, hS'⟩ f' hC'
    have q := h f' (by rw [h0, wM, if_neg (by decide)]; exact ⟨ad, _, _, _, cl, rfl, hC', hS', hS1, hF1⟩)
    rw [h0, ans, if_neg (by decide), show (-900000 - 2 : Int32) = -900002 from by decide] at q
    exact q
theorem KA_compare {g : GG} {f : AH} {o : Nat} {O : AH} {cm : CM} {M S F : Nat} (H : GS g f o O cm M S F) (k9 : Int32) (c9 : Int32) (n9 : Int32) (hch : isChI k9) {Q : Option Value → AH → Prop} {X : String → AH → Prop} (h : ∀ (f' : AH), GS g f' o O ((cmpM cm k9 c9 n9).2) M S (wM ((cmpM cm k9 c9 n9).2 49 0 0) F) → Q (some (.int (ans ((cmpM cm k9 c9 n9).2 49 0 0) ((cmpM cm k9 c9 n9).1)))) f') : T_La_compare g [.ref o, .int k9, .int c9, .int n9] f Q X := by
  obtain ⟨ad, sh, V, L, cl, rfl, hC, hS, hS1, hF1⟩ := H
  obtain ⟨⟨p1, p2⟩, ⟨p3, p4⟩, ⟨p5, p6, p7, p8⟩, ⟨p9, q1⟩, ⟨q2, q3, q4⟩, q5, ⟨q6, q7, q8, q9⟩, qa⟩ := hS.cp
  refine i_La_compare_ hC ⟨(by first | assumption | omega | rfl), (by first | assumption | omega | rfl), (by first | assumption | omega | rfl)⟩ (Cls.m2 ?_ ?_ ?_ (P_compare hS k9 c9 n9))
  · rintro ⟨h0, hR, hS'⟩ f' ad' e' hC'
    have q := h f' (by rw [h0, wM, if_pos rfl]; exact ⟨ad', _, _, _, cl, e', hC', hS', hS1, (by show sh.F + 1 = _; rw [hF1])⟩)
    rw [h0, ans, if_pos rfl, ← hR] at q
    exact q
  · rintro ⟨h0, hS'⟩ f' hC'
    have q := h f' (by rw [h0, wM, if_neg (by decide)]; exact ⟨ad, _, _, _, cl, rfl, hC', hS', hS1, hF1⟩)
    rw [h0, ans, if_neg (by decide), show (-900000 - 1 : Int32) = -900001 from by decide] at q
    exact q
  · rintro ⟨h0, hS'⟩ f' hC'
    have q := h f' (by rw [h0, wM, if_neg (by decide)]; exact ⟨ad, _, _, _, cl, rfl, hC', hS', hS1, hF1⟩)
    rw [h0, ans, if_neg (by decide), show (-900000 - 2 : Int32) = -900002 from by decide] at q
    exact q
theorem KA_join {g : GG} {f : AH} {o : Nat} {O : AH} {cm : CM} {M S F : Nat} (H : GS g f o O cm M S F) (k9 : Int32) (x9 : Int32) (y9 : Int32) (hch : isChI k9) {Q : Option Value → AH → Prop} {X : String → AH → Prop} (h : ∀ (f' : AH), GS g f' o O ((joinM cm k9 x9 y9).2) M S (wM ((joinM cm k9 x9 y9).2 49 0 0) F) → Q (some (.int (ans ((joinM cm k9 x9 y9).2 49 0 0) ((joinM cm k9 x9 y9).1)))) f') : T_La_join g [.ref o, .int k9, .int x9, .int y9] f Q X := by
  obtain ⟨ad, sh, V, L, cl, rfl, hC, hS, hS1, hF1⟩ := H
  obtain ⟨⟨p1, p2⟩, ⟨p3, p4⟩, ⟨p5, p6, p7, p8⟩, ⟨p9, q1⟩, ⟨q2, q3, q4⟩, q5, ⟨q6, q7, q8, q9⟩, qa⟩ := hS.cp
  refine i_La_join_ hC ⟨(by first | assumption | omega | rfl), (by first | assumption | omega | rfl), (by first | assumption | omega | rfl)⟩ (Cls.m3 ?_ ?_ ?_ ?_ (P_join hS k9 x9 y9))
  · rintro ⟨h0, hR, hS'⟩ f' ad' e' hC'
    have q := h f' (by rw [h0, wM, if_pos rfl]; exact ⟨ad', _, _, _, cl, e', hC', hS', hS1, (by show sh.F + 1 = _; rw [hF1])⟩)
    rw [h0, ans, if_pos rfl, ← hR] at q
    exact q
  · rintro ⟨h0, hS'⟩ f' hC'
    have q := h f' (by rw [h0, wM, if_neg (by decide)]; exact ⟨ad, _, _, _, cl, rfl, hC', hS', hS1, hF1⟩)
    rw [h0, ans, if_neg (by decide), show (-900000 - 1 : Int32) = -900001 from by decide] at q
    exact q
  · rintro ⟨h0, hS'⟩ f' hC'
    have q := h f' (by rw [h0, wM, if_neg (by decide)]; exact ⟨ad, _, _, _, cl, rfl, hC', hS', hS1, hF1⟩)
    rw [h0, ans, if_neg (by decide), show (-900000 - 2 : Int32) = -900002 from by decide] at q
    exact q
  · rintro ⟨h0, hS'⟩ f' hC'
    have q := h f' (by rw [h0, wM, if_neg (by decide)]; exact ⟨ad, _, _, _, cl, rfl, hC', hS', hS1, hF1⟩)
    rw [h0, ans, if_neg (by decide), show (-900000 - 3 : Int32) = -900003 from by decide] at q
    exact q
theorem KA_open {g : GG} {f : AH} {o : Nat} {O : AH} {cm : CM} {M S F : Nat} (H : GS g f o O cm M S F) (x9 : Int32) (y9 : Int32) (z9 : Int32) (u9 : Int32) {Q : Option Value → AH → Prop} {X : String → AH → Prop} (h : ∀ (f' : AH), GS g f' o O ((opM cm x9 y9 z9 u9).2) M (wM ((opM cm x9 y9 z9 u9).2 49 0 0) S) F → Q (some (.int (ans ((opM cm x9 y9 z9 u9).2 49 0 0) ((opM cm x9 y9 z9 u9).1)))) f') : T_La_open g [.ref o, .int x9, .int y9, .int z9, .int u9] f Q X := by
  obtain ⟨ad, sh, V, L, cl, rfl, hC, hS, hS1, hF1⟩ := H
  obtain ⟨⟨p1, p2⟩, ⟨p3, p4⟩, ⟨p5, p6, p7, p8⟩, ⟨p9, q1⟩, ⟨q2, q3, q4⟩, q5, ⟨q6, q7, q8, q9⟩, qa⟩ := hS.cp
  refine i_La_open_ hC (on_pre hS).1 (Cls.m3 ?_ ?_ ?_ ?_ (P_open hS x9 y9 z9 u9))
  · rintro ⟨h0, hR, hS'⟩ f' ad' e' hC'
    have q := h f' (by rw [h0, wM, if_pos rfl]; exact ⟨ad', _, _, _, cl, e', hC', hS', (by show sh.S + 1 = _; rw [hS1]), hF1⟩)
    rw [h0, ans, if_pos rfl, ← hR] at q
    exact q
  · rintro ⟨h0, hS'⟩ f' hC'
    have q := h f' (by rw [h0, wM, if_neg (by decide)]; exact ⟨ad, _, _, _, cl, rfl, hC', hS', hS1, hF1⟩)
    rw [h0, ans, if_neg (by decide), show (-900000 - 1 : Int32) = -900001 from by decide] at q
    exact q
  · rintro ⟨h0, hS'⟩ f' hC'
    have q := h f' (by rw [h0, wM, if_neg (by decide)]; exact ⟨ad, _, _, _, cl, rfl, hC', hS', hS1, hF1⟩)
    rw [h0, ans, if_neg (by decide), show (-900000 - 2 : Int32) = -900002 from by decide] at q
    exact q
  · rintro ⟨h0, hS'⟩ f' hC'
    have q := h f' (by rw [h0, wM, if_neg (by decide)]; exact ⟨ad, _, _, _, cl, rfl, hC', hS', hS1, hF1⟩)
    rw [h0, ans, if_neg (by decide), show (-900000 - 3 : Int32) = -900003 from by decide] at q
    exact q
theorem KB_moment {g : GG} {f : AH} {o : Nat} {O : AH} {cm : CM} {M S F : Nat} (H : GS g f o O cm M S F) {Q : Option Value → AH → Prop} {X : String → AH → Prop} (h : ∀ f', GS g f' o O cm M S F → Q (some (.int (nI M))) f') : hobj f o 9 (fun _ => True) ∧ T_GP_moment g [.ref o] f Q X := by
  obtain ⟨ad, sh, V, L, cl, rfl, hC, hS, hS1, hF1⟩ := H
  refine ⟨by rw [hobj_c (hC.o9 rfl)]; trivial, i_GP_moment_ hC rfl fun f' hC' => ?_⟩
  have e : V 0 7 = nI M := by
    obtain ⟨R, G, P, Dn, w, W, hRd, hP, hMo, -⟩ := hS
    exact hMo.1
  rw [e]
  exact h f' ⟨ad, _, _, _, cl, rfl, hC', hS, hS1, hF1⟩
theorem KB_chunks {g : GG} {f : AH} {o : Nat} {O : AH} {cm : CM} {M S F : Nat} (H : GS g f o O cm M S F) {Q : Option Value → AH → Prop} {X : String → AH → Prop} (h : ∀ f', GS g f' o O cm M S F → Q (some (.int (chN cm))) f') : hobj f o 9 (fun _ => True) ∧ T_GP_chunks g [.ref o] f Q X := by
  obtain ⟨ad, sh, V, L, cl, rfl, hC, hS, hS1, hF1⟩ := H
  obtain ⟨⟨p1, p2⟩, -⟩ := hS.cp
  refine ⟨by rw [hobj_c (hC.o9 rfl)]; trivial, i_GP_chunks_ hC rfl p1 fun f' hC' => ?_⟩
  rw [← hS.told.2.2.2]
  exact h f' ⟨ad, _, _, _, cl, rfl, hC', hS, hS1, hF1⟩
theorem KB_isSound {g : GG} {f : AH} {o : Nat} {O : AH} {cm : CM} {M S F : Nat} (H : GS g f o O cm M S F) {Q : Option Value → AH → Prop} {X : String → AH → Prop} (h : ∀ f', GS g f' o O cm M S F → Q (some (.int 1)) f') : hobj f o 9 (fun _ => True) ∧ T_GP_isSound g [.ref o] f Q X := by
  obtain ⟨ad, sh, V, L, cl, rfl, hC, hS, hS1, hF1⟩ := H
  obtain ⟨⟨h1, h2, h3, h4, h5⟩, h6⟩ := snd_pre hS
  refine ⟨by rw [hobj_c (hC.o9 rfl)]; trivial, i_GP_isSound_ hC rfl ⟨rfl, h1, h2, h3, h4, h5⟩ fun f' hC' => ?_⟩
  exact h f' ⟨ad, _, _, _, cl, rfl, hC', h6.c49 (fun k hk => (thr_nq hk).symm), hS1, hF1⟩

